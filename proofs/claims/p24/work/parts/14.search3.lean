/-! the search's changes -/
abbrev cs_wle (S : cs_S) (x : Int32) : cs_S := (S.1, S.2.1, S.2.2.1, S.2.2.2.1, x, S.2.2.2.2.2)
abbrev cs_wcl (S : cs_S) (x : Nat → Int32) : cs_S := (S.1, S.2.1, S.2.2.1, S.2.2.2.1, S.2.2.2.2.1, x, S.2.2.2.2.2.2)
abbrev cs_wgv (S : cs_S) (g va : Int32) : cs_S := (S.1, S.2.1, S.2.2.1, S.2.2.2.1, S.2.2.2.2.1, S.2.2.2.2.2.1, g, S.2.2.2.2.2.2.2.1, S.2.2.2.2.2.2.2.2.1, S.2.2.2.2.2.2.2.2.2.1, va, S.2.2.2.2.2.2.2.2.2.2.2)
abbrev cs_wrs (S : cs_S) (x : Nat → Int32) : cs_S := (S.1, S.2.1, S.2.2.1, S.2.2.2.1, S.2.2.2.2.1, S.2.2.2.2.2.1, S.2.2.2.2.2.2.1, S.2.2.2.2.2.2.2.1, S.2.2.2.2.2.2.2.2.1, x, S.2.2.2.2.2.2.2.2.2.2)
abbrev cs_wsd (S : cs_S) (x : Int32) : cs_S := (S.1, S.2.1, S.2.2.1, S.2.2.2.1, S.2.2.2.2.1, S.2.2.2.2.2.1, S.2.2.2.2.2.2.1, S.2.2.2.2.2.2.2.1, S.2.2.2.2.2.2.2.2.1, S.2.2.2.2.2.2.2.2.2.1, S.2.2.2.2.2.2.2.2.2.2.1, x, S.2.2.2.2.2.2.2.2.2.2.2.2)
abbrev cs_wco (S : cs_S) (x : Int32) : cs_S := (S.1, S.2.1, S.2.2.1, S.2.2.2.1, S.2.2.2.2.1, S.2.2.2.2.2.1, S.2.2.2.2.2.2.1, S.2.2.2.2.2.2.2.1, S.2.2.2.2.2.2.2.2.1, S.2.2.2.2.2.2.2.2.2.1, S.2.2.2.2.2.2.2.2.2.2.1, S.2.2.2.2.2.2.2.2.2.2.2.1, x, S.2.2.2.2.2.2.2.2.2.2.2.2.2)
abbrev cs_wsp (S : cs_S) (x : Int32) : cs_S := (S.1, S.2.1, S.2.2.1, S.2.2.2.1, S.2.2.2.2.1, S.2.2.2.2.2.1, S.2.2.2.2.2.2.1, S.2.2.2.2.2.2.2.1, S.2.2.2.2.2.2.2.2.1, S.2.2.2.2.2.2.2.2.2.1, S.2.2.2.2.2.2.2.2.2.2.1, S.2.2.2.2.2.2.2.2.2.2.2.1, S.2.2.2.2.2.2.2.2.2.2.2.2.1, x)
/-- a clause told -/
def cs_tell (S : cs_S) (c : Int32) : cs_S := (S.1, S.2.1, S.2.2.1, cs_to S + nI 1, S.2.2.2.2.1, upd (cs_cl S) (cs_t S) c, S.2.2.2.2.2.2)
theorem cs_tell_ok (l : Launch) (S : cs_S) (ht : cs_to S = nI (cs_t S)) (h20 : cs_t S < 20) (c : Int32) : cw_M l mm_X1_tell 0 0 [.ref 0, .int c] (cs_h S) none (cs_h (cs_tell S c)) := by
  refine cw_enter cw_KX1_tell (by decide) (Nat.le_of_ble_eq_true rfl) ?_
  exact cw_run cw_kX1_tell cw_z 19 [false, false] [_] [] (And.intro ((show ¬ cs_to S < 0 by rw [ht]; exact nI_pos (by omega))) (And.intro ((show ¬ nI 20 ≤ cs_to S by rw [ht]; exact nI_ge h20 (by omega))) (And.intro (ht) (And.intro ((show cs_t S < 60 by omega)) (cw_retv cw_kX1_tell cw_z rfl rfl)))))
/-- a clause taken away: the gap closes -/
def cs_rm (f : Nat → Int32) (k i : Nat) : Nat → Int32 := fun j => if k ≤ j ∧ j < i then f (j + 1) else f j
theorem cs_rm_k (f : Nat → Int32) (k : Nat) : cs_rm f k k = f := by
  funext j
  unfold cs_rm
  rw [if_neg (by omega)]
theorem cs_rm_s (f : Nat → Int32) {k i : Nat} (h : k ≤ i) : upd (cs_rm f k i) i (cs_rm f k i (i + 1)) = cs_rm f k (i + 1) := by
  funext j
  unfold upd cs_rm
  by_cases e : j = i
  · subst e
    rw [if_pos rfl, if_neg (by omega), if_pos (by omega)]
  · rw [if_neg e]
    by_cases q : k ≤ j ∧ j < i
    · rw [if_pos q, if_pos (by omega)]
    · rw [if_neg q, if_neg (by omega)]
theorem cs_rm_loop (l : Launch) (S : cs_S) (k : Nat) (x : Int32) : ∀ n i, i + n = 59 → k ≤ i → cw_W l mm_X1_removeClause 0 0 (cs_h S) none (cs_h (cs_wcl S (cs_rm (cs_cl S) k 59))) 0 0 2 [(2, .int (nI i)), (0, .ref 0), (1, .int x)] [] (cs_h (cs_wcl S (cs_rm (cs_cl S) k i))) := by
  intro n
  induction n with
  | zero =>
    intro i hi hk
    obtain rfl : i = 59 := by omega
    exact cw_run cw_kX1_removeClause cw_z 9 [false, true] [] [] (And.intro ((show ¬ nI 59 < 0 by decide)) (And.intro ((show nI 60 ≤ nI 59 + nI 1 by decide)) (cw_retv cw_kX1_removeClause cw_z rfl rfl)))
  | succ n ih =>
    intro i hi hk
    have ih1 := ih (i + 1) (by omega) (by omega)
    rw [← nI_add i 1, ← cs_rm_s (cs_cl S) hk] at ih1
    exact cw_run cw_kX1_removeClause cw_z 21 [false, false] [_, _] [] (And.intro (nI_pos (by omega)) (And.intro ((show ¬ nI 60 ≤ nI i + nI 1 by rw [nI_add]; exact nI_ge (by omega) (by omega))) (And.intro (nI_add i 1) (And.intro ((show i + 1 < 60 by omega)) (And.intro (rfl) (And.intro ((show i < 60 by omega)) (ih1)))))))
theorem cs_removeClause (l : Launch) (S : cs_S) {k : Nat} (hk : k ≤ 59) : cw_M l mm_X1_removeClause 0 0 [.ref 0, .int (nI k)] (cs_h S) none (cs_h (cs_wcl S (cs_rm (cs_cl S) k 59))) := by
  refine cw_enter cw_KX1_removeClause (by decide) (Nat.le_of_ble_eq_true rfl) ?_
  have h1 := cs_rm_loop l S k (nI k) (59 - k) k (by omega) (Nat.le_refl _)
  rw [cs_rm_k] at h1
  exact cw_run cw_kX1_removeClause cw_z 2 [] [] [] h1
/-- a value given -/
def cs_give (S : cs_S) (s lv r : Int32) : cs_S := if cs_g S < 9 then (S.1, S.2.1, S.2.2.1, S.2.2.2.1, S.2.2.2.2.1, S.2.2.2.2.2.1, cs_gi S + nI 1, upd (cs_sg S) (cs_g S) s, upd (cs_lv S) (cs_g S) lv, upd (cs_rs S) (cs_g S) r, cs_va S ||| cb_set s, S.2.2.2.2.2.2.2.2.2.2.2) else S
theorem cs_give_ok (l : Launch) (S : cs_S) (hB : cs_Bd S) (s lv r : Int32) : cw_M l mm_X1_give 0 0 [.ref 0, .int s, .int lv, .int r] (cs_h S) none (cs_h (cs_give S s lv r)) := by
  obtain ⟨⟨hg, hg2⟩, -, -, -⟩ := hB
  refine cw_enter cw_KX1_give (by decide) (Nat.le_of_ble_eq_true rfl) ?_
  by_cases h : cs_g S < 9
  · rw [cs_give, if_pos h]
    exact cw_run cw_kX1_give cw_z 38 [false, false] [_, _, _] [(_, _)] (And.intro ((show ¬ cs_gi S < 0 by rw [hg]; exact nI_pos (by omega))) (And.intro ((show ¬ nI 9 ≤ cs_gi S by rw [hg]; exact nI_ge h (by omega))) (And.intro (hg) (And.intro (h) (And.intro (hg) (And.intro (h) (And.intro (hg) (And.intro (h) (And.intro (cs_setOf l _ _) (And.intro (Nat.le_refl _) (cw_retv cw_kX1_give cw_z rfl rfl)))))))))))
  · rw [cs_give, if_neg h]
    exact cw_run cw_kX1_give cw_z 7 [false, true] [] [] (And.intro ((show ¬ cs_gi S < 0 by rw [hg]; exact nI_pos (by omega))) (And.intro ((show nI 9 ≤ cs_gi S by rw [hg]; exact nI_le (by omega) (by omega))) (cw_retv cw_kX1_give cw_z rfl rfl)))
/-- how many values stay, and which ones as a set, where all with a greater level go -/
def cs_gbn (S : cs_S) (L : Int32) : Nat → Nat
  | 0 => 0
  | g + 1 => if cs_lv S g ≤ L then g + 1 else cs_gbn S L g
def cs_gbv (S : cs_S) (L : Int32) : Nat → Int32 → Int32
  | 0, va => va
  | g + 1, va => if cs_lv S g ≤ L then va else cs_gbv S L g (va &&& (cb_set (cs_sg S g) ^^^ (-nI 1)))
def cs_gb (S : cs_S) (L : Int32) : cs_S := cs_wgv S (nI (cs_gbn S L (cs_g S))) (cs_gbv S L (cs_g S) (cs_va S))
theorem cs_gb_loop (l : Launch) (S : cs_S) (L : Int32) : ∀ g va, g ≤ 9 → cw_W l mm_X1_goBackTo 0 0 (cs_h S) none (cs_h (cs_wgv S (nI (cs_gbn S L g)) (cs_gbv S L g va))) 0 0 0 [(0, .ref 0), (1, .int L)] [] (cs_h (cs_wgv S (nI g) va)) := by
  intro g
  induction g with
  | zero =>
    intro va _
    exact cw_run cw_kX1_goBackTo cw_z 3 [true] [] [] (And.intro ((show nI 0 ≤ 0 by decide)) (cw_retv cw_kX1_goBackTo cw_z rfl rfl))
  | succ g ih =>
    intro va h9
    have h0 : ¬ nI (g + 1) ≤ 0 := nI_nle (by omega) (by omega)
    have e0 : nI (g + 1) - nI 1 = nI g := by rw [pk_sub (by omega)]; rfl
    by_cases c : cs_lv S g ≤ L
    · rw [show cs_gbn S L (g + 1) = g + 1 by rw [cs_gbn, if_pos c], show cs_gbv S L (g + 1) va = va by rw [cs_gbv, if_pos c]]
      exact cw_run cw_kX1_goBackTo cw_z 11 [false, true] [] [(_, _)] (And.intro (h0) (And.intro (cs_levelAt l (cs_wgv S (nI (g + 1)) va) e0 (show g < 9 by omega)) (And.intro (Nat.le_refl _) (And.intro (c) (cw_retv cw_kX1_goBackTo cw_z rfl rfl)))))
    · rw [show cs_gbn S L (g + 1) = cs_gbn S L g by rw [cs_gbn, if_neg c], show cs_gbv S L (g + 1) va = cs_gbv S L g (va &&& (cb_set (cs_sg S g) ^^^ (-nI 1))) by rw [cs_gbv, if_neg c]]
      have ih1 := ih (va &&& (cb_set (cs_sg S g) ^^^ (-nI 1))) (by omega)
      have e1 : cs_wgv S (nI g) (va &&& (cb_set (cs_sg S g) ^^^ (-nI 1))) = cs_wgv S (nI (g + 1) - nI 1) (va &&& (cb_set (cs_sg S g) ^^^ (-nI 1))) := by rw [e0]
      rw [e1] at ih1
      exact cw_run cw_kX1_goBackTo cw_z 30 [false, false] [] [(_, _), (_, _), (_, _)] (And.intro (h0) (And.intro (cs_levelAt l (cs_wgv S (nI (g + 1)) va) e0 (show g < 9 by omega)) (And.intro (Nat.le_refl _) (And.intro (c) (And.intro (cs_signAt l (cs_wgv S (nI (g + 1) - nI 1) va) e0 (show g < 9 by omega)) (And.intro (Nat.le_refl _) (And.intro (cs_setOf l _ _) (And.intro (Nat.le_refl _) (ih1)))))))))
theorem cs_goBackTo (l : Launch) (S : cs_S) (hB : cs_Bd S) (L : Int32) : cw_M l mm_X1_goBackTo 0 0 [.ref 0, .int L] (cs_h S) none (cs_h (cs_gb S L)) := by
  refine cw_enter cw_KX1_goBackTo (by decide) (Nat.le_of_ble_eq_true rfl) ?_
  have h1 := cs_gb_loop l S L (cs_g S) (cs_va S) hB.1.2
  rw [← hB.1.1] at h1
  exact h1
/-- reasons above a number become less by 1 -/
def cs_lr (S : cs_S) (x : Int32) (i : Nat) : Nat → Int32 := fun j => if j < i ∧ x < cs_rs S j then cs_rs S j - nI 1 else cs_rs S j
theorem cs_lr_0 (S : cs_S) (x : Int32) : cs_lr S x 0 = cs_rs S := by
  funext j; unfold cs_lr; rw [if_neg (by omega)]
theorem cs_lr_y (S : cs_S) {x : Int32} {i : Nat} (h : x < cs_rs S i) : upd (cs_lr S x i) i (cs_lr S x i i - nI 1) = cs_lr S x (i + 1) := by
  funext j
  unfold upd cs_lr
  by_cases e : j = i
  · subst e
    rw [if_pos rfl, if_neg (by omega), if_pos ⟨by omega, h⟩]
  · rw [if_neg e]
    by_cases q : j < i ∧ x < cs_rs S j
    · rw [if_pos q, if_pos ⟨by omega, q.2⟩]
    · rw [if_neg q, if_neg (fun q2 => q ⟨by omega, q2.2⟩)]
theorem cs_lr_n (S : cs_S) {x : Int32} {i : Nat} (h : ¬ x < cs_rs S i) : cs_lr S x i = cs_lr S x (i + 1) := by
  funext j
  unfold cs_lr
  by_cases e : j = i
  · subst e
    rw [if_neg (by omega), if_neg (fun q => h q.2)]
  · by_cases q : j < i ∧ x < cs_rs S j
    · rw [if_pos q, if_pos ⟨by omega, q.2⟩]
    · rw [if_neg q, if_neg (fun q2 => q ⟨by omega, q2.2⟩)]
theorem cs_lr_at (S : cs_S) (x : Int32) (i : Nat) : cs_lr S x i i = cs_rs S i := by
  unfold cs_lr; rw [if_neg (by omega)]
theorem cs_lr_loop (l : Launch) (S : cs_S) (hB : cs_Bd S) (x : Int32) : ∀ n i, i + n = cs_g S → cw_W l mm_X1_lowerReasonsAbove 0 0 (cs_h S) none (cs_h (cs_wrs S (cs_lr S x (cs_g S)))) 0 0 2 [(2, .int (nI i)), (0, .ref 0), (1, .int x)] [] (cs_h (cs_wrs S (cs_lr S x i))) := by
  obtain ⟨⟨hg, hg2⟩, -, -, -⟩ := hB
  intro n
  induction n with
  | zero =>
    intro i hi
    obtain rfl : i = cs_g S := by omega
    exact cw_run cw_kX1_lowerReasonsAbove cw_z 4 [true] [] [] (And.intro ((show cs_gi S ≤ nI (cs_g S) by rw [← hg]; exact Int32.le_refl _)) (cw_retv cw_kX1_lowerReasonsAbove cw_z rfl rfl))
  | succ n ih =>
    intro i hi
    have h0 : ¬ cs_gi S ≤ nI i := by rw [hg]; exact nI_ge (by omega) (by omega)
    have h9 : i < 9 := by omega
    have ih1 := ih (i + 1) (by omega)
    rw [← nI_add i 1] at ih1
    by_cases c : x < cs_rs S i
    · rw [← cs_lr_y S c] at ih1
      have c2 : ¬ cs_lr S x i i ≤ x := by rw [cs_lr_at]; exact Int32.not_le.mpr c
      exact cw_run cw_kX1_lowerReasonsAbove cw_z 23 [false, false, false] [_, _, _] [] (And.intro (h0) (And.intro ((show ¬ nI 9 ≤ nI i from nI_ge h9 (by omega))) (And.intro (rfl) (And.intro (h9) (And.intro (c2) (And.intro (rfl) (And.intro (h9) (And.intro (rfl) (And.intro (h9) (ih1))))))))))
    · rw [← cs_lr_n S c] at ih1
      have c2 : cs_lr S x i i ≤ x := by rw [cs_lr_at]; exact Int32.not_lt.mp c
      exact cw_run cw_kX1_lowerReasonsAbove cw_z 15 [false, false, true] [_] [] (And.intro (h0) (And.intro ((show ¬ nI 9 ≤ nI i from nI_ge h9 (by omega))) (And.intro (rfl) (And.intro (h9) (And.intro (c2) (ih1))))))
theorem cs_lowerReasonsAbove (l : Launch) (S : cs_S) (hB : cs_Bd S) (x : Int32) : cw_M l mm_X1_lowerReasonsAbove 0 0 [.ref 0, .int x] (cs_h S) none (cs_h (cs_wrs S (cs_lr S x (cs_g S)))) := by
  refine cw_enter cw_KX1_lowerReasonsAbove (by decide) (Nat.le_of_ble_eq_true rfl) ?_
  have h1 := cs_lr_loop l S hB x (cs_g S) 0 (by omega)
  rw [cs_lr_0] at h1
  exact cw_run cw_kX1_lowerReasonsAbove cw_z 2 [] [] [] h1
/-- the first learned clause without use, from number k on -/
def cs_fgk (S : cs_S) : Nat → Nat → Option Nat
  | 0, _ => none
  | n + 1, k => if cs_isr S (nI k) (cs_g S) 0 then cs_fgk S n (k + 1) else some k
def cs_drop (S : cs_S) (k : Nat) : cs_S := cs_wrs (cs_wle (cs_wcl S (cs_rm (cs_cl S) k 59)) (cs_le S - nI 1)) (cs_lr S (nI k) (cs_g S))
def cs_fgt (S : cs_S) : cs_S := match cs_fgk S (cs_n S) (cs_t S) with
  | none => S
  | some k => cs_drop S k
theorem cs_fgt_loop (l : Launch) (S : cs_S) (hB : cs_Bd S) : ∀ n k, k + n = cs_t S + cs_n S → 1 ≤ cs_n S → cw_W l mm_X1_forgetEarliestWithoutUse 0 0 (cs_h S) none (cs_h (match cs_fgk S n k with | none => S | some k => cs_drop S k)) 0 0 5 [(1, .int (nI k)), (0, .ref 0)] [] (cs_h S) := by
  have hB0 := hB
  obtain ⟨⟨hg, hg2⟩, ⟨ht, ht2⟩, ⟨hn, hn2⟩, hth⟩ := hB
  have hs : cs_to S + cs_le S = nI (cs_t S + cs_n S) := by rw [ht, hn, nI_add]
  intro n
  induction n with
  | zero =>
    intro k hk _
    exact cw_run cw_kX1_forgetEarliestWithoutUse cw_z 7 [true] [] [] (And.intro ((show cs_to S + cs_le S ≤ nI k by rw [hs]; exact nI_le (by omega) (by omega))) (cw_retv cw_kX1_forgetEarliestWithoutUse cw_z rfl rfl))
  | succ n ih =>
    intro k hk h1
    have h0 : ¬ cs_to S + cs_le S ≤ nI k := by rw [hs]; exact nI_ge (by omega) (by omega)
    cases b : cs_isr S (nI k) (cs_g S) 0 with
    | true =>
      rw [show cs_fgk S (n + 1) k = cs_fgk S n (k + 1) by rw [cs_fgk, if_pos b]]
      have ih1 := ih (k + 1) (by omega) h1
      rw [← nI_add k 1] at ih1
      exact cw_run cw_kX1_forgetEarliestWithoutUse cw_z 13 [false, true] [] [(_, _)] (And.intro (h0) (And.intro (cs_isReason l S hg hg2 _) (And.intro (Nat.le_refl _) (And.intro (cb_nt.mpr b) (ih1)))))
    | false =>
      rw [show cs_fgk S (n + 1) k = some k by rw [cs_fgk, if_neg (by rw [b]; decide)]]
      have hle : cs_le S - nI 1 = nI (cs_n S - 1) := by rw [hn, pk_sub h1]
      have hc : cs_n (cs_wle (cs_wcl S (cs_rm (cs_cl S) k 59)) (cs_le S - nI 1)) = cs_n S - 1 := by
        show (cs_le S - nI 1).toNatClampNeg = _
        rw [hle, nI_clamp (by omega)]
      have hB2 : cs_Bd (cs_wle (cs_wcl S (cs_rm (cs_cl S) k 59)) (cs_le S - nI 1)) := by
        refine ⟨⟨hg, hg2⟩, ⟨ht, ht2⟩, ⟨?_, by rw [hc]; omega⟩, hth⟩
        rw [hc]; exact hle
      exact cw_run cw_kX1_forgetEarliestWithoutUse cw_z 23 [false, false] [] [(_, _), (_, _), (_, _)] (And.intro (h0) (And.intro (cs_isReason l S hg hg2 _) (And.intro (Nat.le_refl _) (And.intro ((fun q => q (cb_n0.mpr b))) (And.intro (cs_removeClause l S (by omega)) (And.intro (Nat.le_refl _) (And.intro (cs_lowerReasonsAbove l _ hB2 _) (And.intro (Nat.le_refl _) (cw_retv cw_kX1_forgetEarliestWithoutUse cw_z rfl rfl)))))))))
theorem cs_forget (l : Launch) (S : cs_S) (hB : cs_Bd S) (h1 : 1 ≤ cs_n S) : cw_M l mm_X1_forgetEarliestWithoutUse 0 0 [.ref 0] (cs_h S) none (cs_h (cs_fgt S)) := by
  refine cw_enter cw_KX1_forgetEarliestWithoutUse (by decide) (Nat.le_of_ble_eq_true rfl) ?_
  have h2 := cs_fgt_loop l S hB (cs_n S) (cs_t S) (by omega) h1
  rw [← hB.2.1.1] at h2
  exact cw_run cw_kX1_forgetEarliestWithoutUse cw_z 3 [] [] [] h2

