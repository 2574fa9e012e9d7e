/-! the search's other reads: counts of bits, first untrue clause, sets of signs, the way out of a conflict -/
def cb_us (x : Int32) (k : Nat) : Int32 := (x.toUInt32 >>> ((nI k).toUInt32 &&& Int32.toUInt32 31)).toInt32
def cb_b1 (x : Int32) : Int32 := x - (cb_us x 1 &&& 1431655765)
def cb_b2 (x : Int32) : Int32 := (x &&& 858993459) + (cb_us x 2 &&& 858993459)
def cb_b3 (x : Int32) : Int32 := (x + cb_us x 4) &&& 252645135
def cb_b4 (x : Int32) : Int32 := x + cb_us x 8
def cb_b5 (x : Int32) : Int32 := x + cb_us x 16
def cb_bc (x : Int32) : Int32 := cb_b5 (cb_b4 (cb_b3 (cb_b2 (cb_b1 x)))) &&& nI 63
theorem cs_bitCount (l : Launch) (h : cw_H) (x : Int32) : cw_M l mm_J6_bitCount_0f7a4 0 0 [.int x] h (some (.int (cb_bc x))) h := by
  refine cw_enter cw_KJ6_bitCount_0f7a4 (by decide) (Nat.le_of_ble_eq_true rfl) ?_
  refine cw_run cw_kJ6_bitCount_0f7a4 cw_z 8 [] [] [] (show cw_W l mm_J6_bitCount_0f7a4 0 0 h (some (.int (cb_bc x))) h 0 0 10 [(0, .int (cb_b1 x))] [] h from ?_)
  refine cw_run cw_kJ6_bitCount_0f7a4 cw_z 10 [] [] [] (show cw_W l mm_J6_bitCount_0f7a4 0 0 h (some (.int (cb_bc x))) h 0 0 24 [(0, .int (cb_b2 (cb_b1 x)))] [] h from ?_)
  refine cw_run cw_kJ6_bitCount_0f7a4 cw_z 8 [] [] [] (show cw_W l mm_J6_bitCount_0f7a4 0 0 h (some (.int (cb_bc x))) h 0 0 34 [(0, .int (cb_b3 (cb_b2 (cb_b1 x))))] [] h from ?_)
  refine cw_run cw_kJ6_bitCount_0f7a4 cw_z 6 [] [] [] (show cw_W l mm_J6_bitCount_0f7a4 0 0 h (some (.int (cb_bc x))) h 0 0 41 [(0, .int (cb_b4 (cb_b3 (cb_b2 (cb_b1 x)))))] [] h from ?_)
  refine cw_run cw_kJ6_bitCount_0f7a4 cw_z 6 [] [] [] (show cw_W l mm_J6_bitCount_0f7a4 0 0 h (some (.int (cb_bc x))) h 0 0 48 [(0, .int (cb_b5 (cb_b4 (cb_b3 (cb_b2 (cb_b1 x))))))] [] h from ?_)
  exact cw_run cw_kJ6_bitCount_0f7a4 cw_z 3 [] [] [] (cw_reti cw_kJ6_bitCount_0f7a4 cw_z rfl rfl)
/-- does a set hold a sign (told as an int)? -/
def cb_hs (x s : Int32) : Bool := decide (¬ (x &&& (nI 1 <<< (s &&& 31))) = 0)
def cb_opp (s : Int32) : Int32 := if s < nI 10 then s + nI 10 else s - nI 10
def cb_set (s : Int32) : Int32 := nI 1 <<< (s &&& 31)
theorem cs_has0 (l : Launch) (h : cw_H) (x s : Int32) : cw_M l mm_X2_has 0 0 [.int x, .int s] h (some (.int (cb_n (cb_hs x s)))) h := by
  refine cw_enter cw_KX2_has (by decide) (Nat.le_of_ble_eq_true rfl) ?_
  by_cases b : (x &&& (nI 1 <<< (s &&& 31))) = 0
  · rw [show cb_hs x s = false by simp [cb_hs, b]]
    exact cw_run cw_kX2_has cw_z 6 [true] [] [(_, _)] (And.intro (cs_setOf l h s) (And.intro (Nat.le_refl _) (And.intro (b) (cw_retz cw_kX2_has cw_z rfl rfl (Or.inl rfl)))))
  · rw [show cb_hs x s = true by simp [cb_hs, b]]
    exact cw_run cw_kX2_has cw_z 7 [false] [] [(_, _)] (And.intro (cs_setOf l h s) (And.intro (Nat.le_refl _) (And.intro (b) (cw_retz cw_kX2_has cw_z rfl rfl (Or.inr rfl)))))
/-- the numbers that bound the rows -/
def cs_g (S : cs_S) : Nat := (cs_gi S).toNatClampNeg
def cs_t (S : cs_S) : Nat := (cs_to S).toNatClampNeg
def cs_n (S : cs_S) : Nat := (cs_le S).toNatClampNeg
def cs_k (S : cs_S) : Nat := (cs_th S).toNatClampNeg
def cs_Bd (S : cs_S) : Prop := (cs_gi S = nI (cs_g S) ∧ cs_g S ≤ 9) ∧ (cs_to S = nI (cs_t S) ∧ cs_t S ≤ 20) ∧ (cs_le S = nI (cs_n S) ∧ cs_n S ≤ 40) ∧ (cs_th S = nI (cs_k S) ∧ cs_k S ≤ 9)
/-- a clause by any number: 0 outside -/
def cs_ca (S : cs_S) (x : Int32) : Int32 := if x < 0 then nI 0 else if nI 60 ≤ x then nI 0 else cs_cl S x.toNatClampNeg
theorem cs_clauseAt0 (l : Launch) (S : cs_S) (x : Int32) : cw_M l mm_X1_clauseAt 0 0 [.ref 0, .int x] (cs_h S) (some (.int (cs_ca S x))) (cs_h S) := by
  refine cw_enter cw_KX1_clauseAt (by decide) (Nat.le_of_ble_eq_true rfl) ?_
  by_cases c : x < 0
  · rw [show cs_ca S x = nI 0 by simp only [cs_ca, if_pos c]]
    exact cw_run cw_kX1_clauseAt cw_z 3 [true] [] [] (And.intro (c) (cw_reti cw_kX1_clauseAt cw_z rfl rfl))
  · by_cases c2 : nI 60 ≤ x
    · rw [show cs_ca S x = nI 0 by simp only [cs_ca, if_neg c, if_pos c2]]
      exact cw_run cw_kX1_clauseAt cw_z 8 [false, true] [] [] (And.intro (c) (And.intro (c2) (cw_reti cw_kX1_clauseAt cw_z rfl rfl)))
    · rw [show cs_ca S x = cs_cl S x.toNatClampNeg by simp only [cs_ca, if_neg c, if_neg c2]]
      obtain ⟨k, hk, rfl⟩ := nI_of c
      have hk2 : k < 60 := by
        rcases Nat.lt_or_ge k 60 with h | h
        · exact h
        · exact absurd (nI_le h hk) c2
      rw [nI_clamp hk]
      exact cw_run cw_kX1_clauseAt cw_z 12 [false, false] [_] [] (And.intro (c) (And.intro (c2) (And.intro (rfl) (And.intro (hk2) (cw_reti cw_kX1_clauseAt cw_z rfl rfl)))))
/-- the first clause from k on, n more, that isn't true and has o open signs -/
def cs_fu (S : cs_S) (o : Int32) : Nat → Nat → Int32
  | 0, _ => -nI 6
  | n + 1, k => if cs_tr S (cs_cl S k) then cs_fu S o n (k + 1) else if cb_bc (cs_op S (cs_cl S k)) = o then nI k else cs_fu S o n (k + 1)
theorem cs_fu_loop (l : Launch) (S : cs_S) (hB : cs_Bd S) (o : Int32) : ∀ n k, k + n = cs_t S + cs_n S → cw_W l mm_X1_firstUntrue 0 0 (cs_h S) (some (.int (cs_fu S o n k))) (cs_h S) 0 0 2 [(2, .int (nI k)), (0, .ref 0), (1, .int o)] [] (cs_h S) := by
  obtain ⟨-, ⟨ht, ht2⟩, ⟨hn, hn2⟩, -⟩ := hB
  have hs : cs_to S + cs_le S = nI (cs_t S + cs_n S) := by rw [ht, hn, nI_add]
  intro n
  induction n with
  | zero =>
    intro k hk
    exact cw_run cw_kX1_firstUntrue cw_z 8 [true] [] [] (And.intro ((show cs_to S + cs_le S ≤ nI k by rw [hs]; exact nI_le (by omega) (by omega))) (cw_reti cw_kX1_firstUntrue cw_z rfl rfl))
  | succ n ih =>
    intro k hk
    have h0 : ¬ cs_to S + cs_le S ≤ nI k := by rw [hs]; exact nI_ge (by omega) (by omega)
    have ih1 := ih (k + 1) (by omega)
    rw [← nI_add k 1] at ih1
    cases b : cs_tr S (cs_cl S k) with
    | true =>
      rw [show cs_fu S o (n + 1) k = cs_fu S o n (k + 1) by rw [cs_fu, if_pos b]]
      exact cw_run cw_kX1_firstUntrue cw_z 17 [false, true] [] [(_, _), (_, _)] (And.intro (h0) (And.intro (cs_clauseAt l S (by omega)) (And.intro (Nat.le_refl _) (And.intro (cs_isTrue l S _) (And.intro (Nat.le_refl _) (And.intro (cb_nt.mpr b) (cw_less [0, 2, 3] rfl ih1)))))))
    | false =>
      by_cases c : cb_bc (cs_op S (cs_cl S k)) = o
      · rw [show cs_fu S o (n + 1) k = nI k by rw [cs_fu, if_neg (by rw [b]; decide), if_pos c]]
        exact cw_run cw_kX1_firstUntrue cw_z 22 [false, false, false] [] [(_, _), (_, _), (_, _), (_, _)] (And.intro (h0) (And.intro (cs_clauseAt l S (by omega)) (And.intro (Nat.le_refl _) (And.intro (cs_isTrue l S _) (And.intro (Nat.le_refl _) (And.intro ((fun q => q (cb_n0.mpr b))) (And.intro (cs_openSigns l S _) (And.intro (Nat.le_refl _) (And.intro (cs_bitCount l _ _) (And.intro (Nat.le_refl _) (And.intro ((fun q => q c)) (cw_reti cw_kX1_firstUntrue cw_z rfl rfl))))))))))))
      · rw [show cs_fu S o (n + 1) k = cs_fu S o n (k + 1) by rw [cs_fu, if_neg (by rw [b]; decide), if_neg c]]
        exact cw_run cw_kX1_firstUntrue cw_z 23 [false, false, true] [] [(_, _), (_, _), (_, _), (_, _)] (And.intro (h0) (And.intro (cs_clauseAt l S (by omega)) (And.intro (Nat.le_refl _) (And.intro (cs_isTrue l S _) (And.intro (Nat.le_refl _) (And.intro ((fun q => q (cb_n0.mpr b))) (And.intro (cs_openSigns l S _) (And.intro (Nat.le_refl _) (And.intro (cs_bitCount l _ _) (And.intro (Nat.le_refl _) (And.intro (c) (cw_less [0, 2, 3] rfl ih1))))))))))))
theorem cs_firstUntrue (l : Launch) (S : cs_S) (hB : cs_Bd S) (o : Int32) : cw_M l mm_X1_firstUntrue 0 0 [.ref 0, .int o] (cs_h S) (some (.int (cs_fu S o (cs_t S + cs_n S) 0))) (cs_h S) := by
  refine cw_enter cw_KX1_firstUntrue (by decide) (Nat.le_of_ble_eq_true rfl) ?_
  exact cw_run cw_kX1_firstUntrue cw_z 2 [] [] [] (cs_fu_loop l S hB o _ 0 (by omega))
/-- the told clauses that are not true with the chosen signs, from k on, n more -/
def cs_tbb (S : cs_S) (x : Int32) : Nat → Nat → Int32 → Int32
  | 0, _, a => a
  | n + 1, k, a => cs_tbb S x n (k + 1) (if (cs_cl S k &&& x) = 0 then a ||| (nI 1 <<< (nI k &&& 31)) else a)
/-- all signs of the told clauses; the greatest thing that a set of signs has -/
def cs_all (S : cs_S) : Nat → Nat → Int32 → Int32
  | 0, _, a => a
  | n + 1, k, a => cs_all S n (k + 1) (a ||| cs_cl S k)
def cb_gr (x : Int32) : Nat → Nat → Int32 → Int32
  | 0, _, g => g
  | n + 1, t, g => cb_gr x n (t + 1) (if bt (x ||| cb_op x) t then nI t else g)
theorem cs_tn_loop2 (l : Launch) (S : cs_S) (x : Int32) : ∀ n t g, t + n = 10 → cw_W l mm_X1_toldNeeds 0 0 (cs_h S) (some (.int (cb_gr x n t g))) (cs_h S) 0 0 30 [(3, .int (nI t)), (2, .int g), (1, .int x), (0, .ref 0)] [] (cs_h S) := by
  intro n
  induction n with
  | zero =>
    intro t g hk
    obtain rfl : t = 10 := by omega
    exact cw_run cw_kX1_toldNeeds cw_z 4 [true] [] [] (And.intro ((show nI 9 < nI 10 from nI_lt (by omega) (by omega))) (cw_reti cw_kX1_toldNeeds cw_z rfl rfl))
  | succ n ih =>
    intro t g hk
    have h0 : ¬ nI 9 < nI t := nI_nlt (by omega) (by omega)
    cases b : bt (x ||| cb_op x) t with
    | true =>
      rw [show cb_gr x (n + 1) t g = cb_gr x n (t + 1) (nI t) by rw [cb_gr, if_pos b]]
      have ih1 := ih (t + 1) (nI t) (by omega)
      rw [← nI_add t 1] at ih1
      exact cw_run cw_kX1_toldNeeds cw_z 14 [false, false] [] [(_, _), (_, _)] (And.intro (h0) (And.intro (cs_opposites l _ _) (And.intro (Nat.le_refl _) (And.intro (cs_has l _ _ (by omega)) (And.intro (Nat.le_refl _) (And.intro (cb_nt.mpr b) (ih1)))))))
    | false =>
      rw [show cb_gr x (n + 1) t g = cb_gr x n (t + 1) g by rw [cb_gr, if_neg (by rw [b]; decide)]]
      have ih1 := ih (t + 1) g (by omega)
      rw [← nI_add t 1] at ih1
      exact cw_run cw_kX1_toldNeeds cw_z 12 [false, true] [] [(_, _), (_, _)] (And.intro (h0) (And.intro (cs_opposites l _ _) (And.intro (Nat.le_refl _) (And.intro (cs_has l _ _ (by omega)) (And.intro (Nat.le_refl _) (And.intro (cb_n0.mpr b) (ih1)))))))
theorem cs_tn_loop1 (l : Launch) (S : cs_S) (hB : cs_Bd S) : ∀ n k a, k + n = cs_t S → cw_W l mm_X1_toldNeeds 0 0 (cs_h S) (some (.int (cb_gr (cs_all S n k a) 9 1 (nI 0)))) (cs_h S) 0 0 4 [(2, .int (nI k)), (1, .int a), (0, .ref 0)] [] (cs_h S) := by
  obtain ⟨-, ⟨ht, ht2⟩, -, -⟩ := hB
  intro n
  induction n with
  | zero =>
    intro k a hk
    exact cw_run cw_kX1_toldNeeds cw_z 8 [true] [] [] (And.intro ((show cs_to S ≤ nI k by rw [ht]; exact nI_le (by omega) (by omega))) (cs_tn_loop2 l S _ 9 1 _ (by omega)))
  | succ n ih =>
    intro k a hk
    have h0 : ¬ cs_to S ≤ nI k := by rw [ht]; exact nI_ge (by omega) (by omega)
    have ih1 := ih (k + 1) (a ||| cs_cl S k) (by omega)
    rw [← nI_add k 1] at ih1
    exact cw_run cw_kX1_toldNeeds cw_z 12 [false] [] [(_, _)] (And.intro (h0) (And.intro (cs_clauseAt l S (by omega)) (And.intro (Nat.le_refl _) (ih1))))
theorem cs_toldNeeds (l : Launch) (S : cs_S) (hB : cs_Bd S) : cw_M l mm_X1_toldNeeds 0 0 [.ref 0] (cs_h S) (some (.int (cb_gr (cs_all S (cs_t S) 0 (nI 0)) 9 1 (nI 0)))) (cs_h S) := by
  refine cw_enter cw_KX1_toldNeeds (by decide) (Nat.le_of_ble_eq_true rfl) ?_
  exact cw_run cw_kX1_toldNeeds cw_z 4 [] [] [] (cs_tn_loop1 l S hB _ 0 _ (by omega))
/-- the signs of the present level -/
def cs_spl (S : cs_S) : Nat → Nat → Int32 → Int32
  | 0, _, a => a
  | n + 1, k, a => cs_spl S n (k + 1) (if cs_lv S k = cs_pl S (cs_g S) then a ||| cb_set (cs_sg S k) else a)
theorem cs_spl_loop (l : Launch) (S : cs_S) (hB : cs_Bd S) : ∀ n k a, k + n = cs_g S → cw_W l mm_X1_signsOfPresentLevel 0 0 (cs_h S) (some (.int (cs_spl S n k a))) (cs_h S) 0 0 4 [(2, .int (nI k)), (1, .int a), (0, .ref 0)] [] (cs_h S) := by
  obtain ⟨⟨hg, hg2⟩, -, -, -⟩ := hB
  intro n
  induction n with
  | zero =>
    intro k a hk
    exact cw_run cw_kX1_signsOfPresentLevel cw_z 5 [true] [] [] (And.intro ((show cs_gi S ≤ nI k by rw [hg]; exact nI_le (by omega) (by omega))) (cw_reti cw_kX1_signsOfPresentLevel cw_z rfl rfl))
  | succ n ih =>
    intro k a hk
    have h0 : ¬ cs_gi S ≤ nI k := by rw [hg]; exact nI_ge (by omega) (by omega)
    by_cases c : cs_lv S k = cs_pl S (cs_g S)
    · rw [show cs_spl S (n + 1) k a = cs_spl S n (k + 1) (a ||| cb_set (cs_sg S k)) by rw [cs_spl, if_pos c]]
      have ih1 := ih (k + 1) (a ||| cb_set (cs_sg S k)) (by omega)
      rw [← nI_add k 1] at ih1
      exact cw_run cw_kX1_signsOfPresentLevel cw_z 19 [false, false] [] [(_, _), (_, _), (_, _), (_, _)] (And.intro (h0) (And.intro (cs_levelAt l S rfl (show k < 9 by omega)) (And.intro (Nat.le_refl _) (And.intro (cs_presentLevel l S hg hg2) (And.intro (Nat.le_refl _) (And.intro ((fun q => q c)) (And.intro (cs_signAt l S rfl (show k < 9 by omega)) (And.intro (Nat.le_refl _) (And.intro (cs_setOf l _ _) (And.intro (Nat.le_refl _) (ih1)))))))))))
    · rw [show cs_spl S (n + 1) k a = cs_spl S n (k + 1) a by rw [cs_spl, if_neg c]]
      have ih1 := ih (k + 1) a (by omega)
      rw [← nI_add k 1] at ih1
      exact cw_run cw_kX1_signsOfPresentLevel cw_z 12 [false, true] [] [(_, _), (_, _)] (And.intro (h0) (And.intro (cs_levelAt l S rfl (show k < 9 by omega)) (And.intro (Nat.le_refl _) (And.intro (cs_presentLevel l S hg hg2) (And.intro (Nat.le_refl _) (And.intro (c) (ih1)))))))
theorem cs_signsOfPresentLevel (l : Launch) (S : cs_S) (hB : cs_Bd S) : cw_M l mm_X1_signsOfPresentLevel 0 0 [.ref 0] (cs_h S) (some (.int (cs_spl S (cs_g S) 0 (nI 0)))) (cs_h S) := by
  refine cw_enter cw_KX1_signsOfPresentLevel (by decide) (Nat.le_of_ble_eq_true rfl) ?_
  exact cw_run cw_kX1_signsOfPresentLevel cw_z 4 [] [] [] (cs_spl_loop l S hB _ 0 _ (by omega))
/-- the greatest level below the present one that a thing of the clause has -/
def cs_lbp (S : cs_S) (c : Int32) : Nat → Nat → Int32 → Int32
  | 0, _, a => a
  | n + 1, k, a => cs_lbp S c n (k + 1) (if cb_hs c (cb_opp (cs_sg S k)) then (if cs_pl S (cs_g S) ≤ cs_lv S k then a else (if a < cs_lv S k then cs_lv S k else a)) else a)
theorem cs_lbp_loop (l : Launch) (S : cs_S) (hB : cs_Bd S) (c : Int32) : ∀ n k a, k + n = cs_g S → cw_W l mm_X1_levelBelowPresent 0 0 (cs_h S) (some (.int (cs_lbp S c n k a))) (cs_h S) 0 0 4 [(3, .int (nI k)), (2, .int a), (0, .ref 0), (1, .int c)] [] (cs_h S) := by
  obtain ⟨⟨hg, hg2⟩, -, -, -⟩ := hB
  intro n
  induction n with
  | zero =>
    intro k a hk
    exact cw_run cw_kX1_levelBelowPresent cw_z 5 [true] [] [] (And.intro ((show cs_gi S ≤ nI k by rw [hg]; exact nI_le (by omega) (by omega))) (cw_reti cw_kX1_levelBelowPresent cw_z rfl rfl))
  | succ n ih =>
    intro k a hk
    have h0 : ¬ cs_gi S ≤ nI k := by rw [hg]; exact nI_ge (by omega) (by omega)
    have h9 : k < 9 := by omega
    cases b : cb_hs c (cb_opp (cs_sg S k)) with
    | false =>
      rw [show cs_lbp S c (n + 1) k a = cs_lbp S c n (k + 1) a by rw [cs_lbp, if_neg (by rw [b]; decide)]]
      have ih1 := ih (k + 1) a (by omega)
      rw [← nI_add k 1] at ih1
      exact cw_run cw_kX1_levelBelowPresent cw_z 13 [false, true] [] [(_, _), (_, _), (_, _)] (And.intro (h0) (And.intro (cs_signAt l S rfl h9) (And.intro (Nat.le_refl _) (And.intro (cs_opposite l _ _) (And.intro (Nat.le_refl _) (And.intro (cs_has0 l _ _ _) (And.intro (Nat.le_refl _) (And.intro (cb_n0.mpr b) (ih1)))))))))
    | true =>
      by_cases d : cs_pl S (cs_g S) ≤ cs_lv S k
      · rw [show cs_lbp S c (n + 1) k a = cs_lbp S c n (k + 1) a by rw [cs_lbp, if_pos b, if_pos d]]
        have ih1 := ih (k + 1) a (by omega)
        rw [← nI_add k 1] at ih1
        exact cw_run cw_kX1_levelBelowPresent cw_z 19 [false, false, true] [] [(_, _), (_, _), (_, _), (_, _), (_, _)] (And.intro (h0) (And.intro (cs_signAt l S rfl h9) (And.intro (Nat.le_refl _) (And.intro (cs_opposite l _ _) (And.intro (Nat.le_refl _) (And.intro (cs_has0 l _ _ _) (And.intro (Nat.le_refl _) (And.intro (cb_nt.mpr b) (And.intro (cs_levelAt l S rfl h9) (And.intro (Nat.le_refl _) (And.intro (cs_presentLevel l S hg hg2) (And.intro (Nat.le_refl _) (And.intro (d) (ih1))))))))))))))
      · rw [show cs_lbp S c (n + 1) k a = cs_lbp S c n (k + 1) (if a < cs_lv S k then cs_lv S k else a) by rw [cs_lbp, if_pos b, if_neg d]]
        have ih1 := ih (k + 1) (if a < cs_lv S k then cs_lv S k else a) (by omega)
        rw [← nI_add k 1] at ih1
        exact cw_run cw_kX1_levelBelowPresent cw_z 25 [false, false, false] [] [(_, _), (_, _), (_, _), (_, _), (_, _), (_, _)] (And.intro (h0) (And.intro (cs_signAt l S rfl h9) (And.intro (Nat.le_refl _) (And.intro (cs_opposite l _ _) (And.intro (Nat.le_refl _) (And.intro (cs_has0 l _ _ _) (And.intro (Nat.le_refl _) (And.intro (cb_nt.mpr b) (And.intro (cs_levelAt l S rfl h9) (And.intro (Nat.le_refl _) (And.intro (cs_presentLevel l S hg hg2) (And.intro (Nat.le_refl _) (And.intro (d) (And.intro (cs_levelAt l S rfl h9) (And.intro (Nat.le_refl _) (ih1))))))))))))))))
theorem cs_levelBelowPresent (l : Launch) (S : cs_S) (hB : cs_Bd S) (c : Int32) : cw_M l mm_X1_levelBelowPresent 0 0 [.ref 0, .int c] (cs_h S) (some (.int (cs_lbp S c (cs_g S) 0 (nI 0)))) (cs_h S) := by
  refine cw_enter cw_KX1_levelBelowPresent (by decide) (Nat.le_of_ble_eq_true rfl) ?_
  exact cw_run cw_kX1_levelBelowPresent cw_z 4 [] [] [] (cs_lbp_loop l S hB c _ 0 _ (by omega))
/-- the clause out of a conflict, from place n - 1 down -/
def cs_coo (S : cs_S) (op : Int32) : Nat → Int32 → Int32
  | 0, c => c
  | n + 1, c => if cb_bc (c &&& op) ≤ nI 1 then c else cs_coo S op n (if cb_hs c (cb_opp (cs_sg S n)) then (c &&& (cb_set (cb_opp (cs_sg S n)) ^^^ (-nI 1))) ||| (cs_ca S (cs_rs S n) &&& (cb_set (cs_sg S n) ^^^ (-nI 1))) else c)
theorem cs_coo_loop (l : Launch) (S : cs_S) (hB : cs_Bd S) (c0 op : Int32) : ∀ n c, n ≤ cs_g S → cw_W l mm_X1_clauseOutOf 0 0 (cs_h S) (some (.int (cs_coo S op n c))) (cs_h S) 0 0 18 [(4, .int (nI n - nI 1)), (3, .int c), (2, .int op), (0, .ref 0)] [] (cs_h S) := by
  obtain ⟨⟨hg, hg2⟩, -, -, -⟩ := hB
  intro n
  induction n with
  | zero =>
    intro c hk
    exact cw_run cw_kX1_clauseOutOf cw_z 3 [true] [] [] (And.intro ((show nI 0 - nI 1 < 0 by decide)) (cw_reti cw_kX1_clauseOutOf cw_z rfl rfl))
  | succ n ih =>
    intro c hk
    have e0 : nI (n + 1) - nI 1 = nI n := by rw [pk_sub (by omega)]; rfl
    rw [e0]
    have h0 : ¬ nI n < 0 := nI_pos (by omega)
    have h9 : n < 9 := by omega
    by_cases d : cb_bc (c &&& op) ≤ nI 1
    · rw [show cs_coo S op (n + 1) c = c by rw [cs_coo, if_pos d]]
      exact cw_run cw_kX1_clauseOutOf cw_z 9 [false, true] [] [(_, _)] (And.intro (h0) (And.intro (cs_bitCount l _ _) (And.intro (Nat.le_refl _) (And.intro (d) (cw_reti cw_kX1_clauseOutOf cw_z rfl rfl)))))
    · cases b : cb_hs c (cb_opp (cs_sg S n)) with
      | false =>
        rw [show cs_coo S op (n + 1) c = cs_coo S op n c by rw [cs_coo, if_neg d, if_neg (by rw [b]; decide)]]
        have ih1 := ih c (by omega)
        rw [← cb_m] at ih1
        exact cw_run cw_kX1_clauseOutOf cw_z 19 [false, false, true] [] [(_, _), (_, _), (_, _), (_, _)] (And.intro (h0) (And.intro (cs_bitCount l _ _) (And.intro (Nat.le_refl _) (And.intro (d) (And.intro (cs_signAt l S rfl h9) (And.intro (Nat.le_refl _) (And.intro (cs_opposite l _ _) (And.intro (Nat.le_refl _) (And.intro (cs_has0 l _ _ _) (And.intro (Nat.le_refl _) (And.intro (cb_n0.mpr b) (cw_less [0, 2, 3, 4] rfl ih1))))))))))))
      | true =>
        rw [show cs_coo S op (n + 1) c = cs_coo S op n ((c &&& (cb_set (cb_opp (cs_sg S n)) ^^^ (-nI 1))) ||| (cs_ca S (cs_rs S n) &&& (cb_set (cs_sg S n) ^^^ (-nI 1)))) by rw [cs_coo, if_neg d, if_pos b]]
        have ih1 := ih ((c &&& (cb_set (cb_opp (cs_sg S n)) ^^^ (-nI 1))) ||| (cs_ca S (cs_rs S n) &&& (cb_set (cs_sg S n) ^^^ (-nI 1)))) (by omega)
        rw [← cb_m] at ih1
        exact cw_run cw_kX1_clauseOutOf cw_z 40 [false, false, false] [] [(_, _), (_, _), (_, _), (_, _), (_, _), (_, _), (_, _), (_, _), (_, _)] (And.intro (h0) (And.intro (cs_bitCount l _ _) (And.intro (Nat.le_refl _) (And.intro (d) (And.intro (cs_signAt l S rfl h9) (And.intro (Nat.le_refl _) (And.intro (cs_opposite l _ _) (And.intro (Nat.le_refl _) (And.intro (cs_has0 l _ _ _) (And.intro (Nat.le_refl _) (And.intro (cb_nt.mpr b) (And.intro (cs_opposite l _ _) (And.intro (Nat.le_refl _) (And.intro (cs_setOf l _ _) (And.intro (Nat.le_refl _) (And.intro (cs_reasonAt l S rfl h9) (And.intro (Nat.le_refl _) (And.intro (cs_clauseAt0 l S _) (And.intro (Nat.le_refl _) (And.intro (cs_setOf l _ _) (And.intro (Nat.le_refl _) (cw_less [0, 1, 3, 4] rfl ih1))))))))))))))))))))))
theorem cs_clauseOutOf (l : Launch) (S : cs_S) (hB : cs_Bd S) (c : Int32) : cw_M l mm_X1_clauseOutOf 0 0 [.ref 0, .int c] (cs_h S) (some (.int (cs_coo S (cb_op (cs_spl S (cs_g S) 0 (nI 0))) (cs_g S) c))) (cs_h S) := by
  refine cw_enter cw_KX1_clauseOutOf (by decide) (Nat.le_of_ble_eq_true rfl) ?_
  have h1 := cs_coo_loop l S hB c (cb_op (cs_spl S (cs_g S) 0 (nI 0))) (cs_g S) c (Nat.le_refl _)
  rw [← hB.1.1] at h1
  exact cw_run cw_kX1_clauseOutOf cw_z 11 [] [] [(_, _), (_, _)] (And.intro (cs_signsOfPresentLevel l S hB) (And.intro (Nat.le_refl _) (And.intro (cs_opposites l _ _) (And.intro (Nat.le_refl _) (cw_less [0, 1, 2, 3] rfl h1)))))

