/-! the reference: its heap, its small methods -/
abbrev cm_S : Type := (Nat → Int32) × (Nat → Int32) × (Nat → Int32) × Int32 × (Nat → Int32) × (Nat → Int32) × (Nat → Int32) × Int32 × (Nat → Int32) × Int32
abbrev cm_st (M : cm_S) : Nat → Int32 := M.1
def cm_h (M : cm_S) : cw_H := [.inr (3, [.ref 1, .ref 2, .ref 3, .int M.2.2.2.1, .ref 4, .ref 5, .ref 6, .int M.2.2.2.2.2.2.2.1, .ref 7, .int M.2.2.2.2.2.2.2.2.2]), .inl (0, 109, .inl M.1), .inl (0, 109, .inl M.2.1), .inl (0, 654, .inl M.2.2.1), .inl (0, 218, .inl M.2.2.2.2.1), .inl (0, 2, .inl M.2.2.2.2.2.1), .inl (0, 60, .inl M.2.2.2.2.2.2.1), .inl (0, 32, .inl M.2.2.2.2.2.2.2.2.1)]
abbrev cm_wst (M : cm_S) (f : Nat → Int32) : cm_S := (f, M.2)
/-- within bounds -/
def cb_wi (v a b : Int32) : Bool := decide (¬ v < a ∧ ¬ b < v)
theorem cm_within (l : Launch) (h : cw_H) (v a b : Int32) : cw_M l mm_X3_within 0 0 [.int v, .int a, .int b] h (some (.int (cb_n (cb_wi v a b)))) h := by
  refine cw_enter cw_kX3_within (by decide) (Nat.le_of_ble_eq_true rfl) ?_
  by_cases c : v < a
  · rw [show cb_wi v a b = false by simp [cb_wi, c]]
    exact cw_run cw_kX3_within cw_z 4 [true] [] [] (And.intro (c) (cw_retz cw_kX3_within cw_z rfl rfl (Or.inl rfl)))
  · by_cases d : b < v
    · rw [show cb_wi v a b = false by simp [cb_wi, d]]
      exact cw_run cw_kX3_within cw_z 7 [false, true] [] [] (And.intro (c) (And.intro (d) (cw_retz cw_kX3_within cw_z rfl rfl (Or.inl rfl))))
    · rw [show cb_wi v a b = true by simp [cb_wi, c, d]]
      exact cw_run cw_kX3_within cw_z 8 [false, false] [] [] (And.intro (c) (And.intro (d) (cw_retz cw_kX3_within cw_z rfl rfl (Or.inr rfl))))
theorem cb_shb (x : Int32) {k : Nat} (hk : k < 32) : (x >>> (nI k &&& 31)) &&& nI 1 = cb_n (bt x k) := by
  have h1 : ∀ i, i < 32 → bt (nI 1) i = decide (i = 0) := by decide +kernel
  have h2 : ∀ i, i < 32 → bt (nI 0) i = false := by decide +kernel
  apply b_ext
  intro i hi
  rw [b_and, b_sshr k hk x hi, h1 i hi]
  by_cases e : i = 0
  · subst e
    rw [if_pos (by omega), Nat.add_zero]
    cases bt x k <;> simp [cb_n, h1 0 (by omega), h2 0 (by omega)]
  · rw [decide_eq_false e, Bool.and_false]
    cases bt x k <;> simp [cb_n, h1 i hi, h2 i hi, e]
theorem cb_n1 {b : Bool} : cb_n b = nI 1 ↔ b = true := by cases b <;> decide +kernel
theorem cm_has (l : Launch) (h : cw_H) (x : Int32) {k : Nat} (hk : k < 32) : cw_M l mm_X3_has 0 0 [.int x, .int (nI k)] h (some (.int (cb_n (bt x k)))) h := by
  refine cw_enter cw_kX3_has (by decide) (Nat.le_of_ble_eq_true rfl) ?_
  have e := cb_shb x hk
  cases b : bt x k with
  | true =>
    rw [b] at e
    exact cw_run cw_kX3_has cw_z 9 [false] [] [] (And.intro ((fun q => q e)) (cw_retz cw_kX3_has cw_z rfl rfl (Or.inr rfl)))
  | false =>
    rw [b] at e
    exact cw_run cw_kX3_has cw_z 8 [true] [] [] (And.intro ((show ¬ (x >>> (nI k &&& 31)) &&& nI 1 = nI 1 by rw [e]; decide)) (cw_retz cw_kX3_has cw_z rfl rfl (Or.inl rfl)))
/-- the value that a sign wants -/
def cb_wa (k : Nat) : Int32 := if k < 10 then nI 1 else nI 0
theorem cm_wanted (l : Launch) (h : cw_H) {k : Nat} (hk : k < 32) : cw_M l mm_X3_wanted 0 0 [.int (nI k)] h (some (.int (cb_wa k))) h := by
  refine cw_enter cw_kX3_wanted (by decide) (Nat.le_of_ble_eq_true rfl) ?_
  by_cases c : k < 10
  · rw [cb_wa, if_pos c]
    exact cw_run cw_kX3_wanted cw_z 5 [false] [] [] (And.intro ((show ¬ nI 10 ≤ nI k from nI_ge c (by omega))) (cw_reti cw_kX3_wanted cw_z rfl rfl))
  · rw [cb_wa, if_neg c]
    exact cw_run cw_kX3_wanted cw_z 4 [true] [] [] (And.intro ((show nI 10 ≤ nI k from nI_le (by omega) (by omega))) (cw_reti cw_kX3_wanted cw_z rfl rfl))
theorem cm_clauses (l : Launch) (M : cm_S) : cw_M l mm_X3_clauses 0 0 [.ref 0] (cm_h M) (some (.int (cm_st M 3 + cm_st M 4))) (cm_h M) := by
  refine cw_enter cw_kX3_clauses (by decide) (Nat.le_of_ble_eq_true rfl) ?_
  exact cw_run cw_kX3_clauses cw_z 9 [] [_, _] [] (And.intro (rfl) (And.intro ((by decide)) (And.intro (rfl) (And.intro ((by decide)) (cw_reti cw_kX3_clauses cw_z rfl rfl)))))
theorem cm_valueOf (l : Launch) (M : cm_S) {k : Nat} (hk : k ≤ 9) : cw_M l mm_X3_valueOf 0 0 [.ref 0, .int (nI k)] (cm_h M) (some (.int (cm_st M (19 + k)))) (cm_h M) := by
  refine cw_enter cw_kX3_valueOf (by decide) (Nat.le_of_ble_eq_true rfl) ?_
  exact cw_run cw_kX3_valueOf cw_z 6 [] [_] [] (And.intro (nI_add 19 k) (And.intro ((show 19 + k < 109 by omega)) (cw_reti cw_kX3_valueOf cw_z rfl rfl)))
theorem cb_r10 {s : Nat} (h : s < 32) : nI s - nI s / nI 10 * nI 10 = nI (s % 10) := pk_rem (by omega) (by omega) (by omega)
theorem cm_valueOfR (l : Launch) (M : cm_S) {s : Nat} (hs : s < 32) : cw_M l mm_X3_valueOf 0 0 [.ref 0, .int (nI s - nI s / nI 10 * nI 10)] (cm_h M) (some (.int (cm_st M (19 + s % 10)))) (cm_h M) := by
  rw [cb_r10 hs]
  exact cm_valueOf l M (by omega)
/-- is a clause true (from sign s on, n more)? how many of its signs are open? -/
def cm_tr (f : Nat → Int32) (c : Int32) : Nat → Nat → Bool → Bool
  | 0, _, a => a
  | n + 1, s, a => cm_tr f c n (s + 1) (a || (bt c s && decide (f (19 + s % 10) = cb_wa s)))
theorem cm_tr_loop (l : Launch) (M : cm_S) (c : Int32) : ∀ n s a, s + n = 20 → cw_W l mm_X3_isTrue 0 0 (cm_h M) (some (.int (cb_n (cm_tr (cm_st M) c n s a)))) (cm_h M) 0 0 4 [(3, .int (nI s)), (2, .int (cb_n a)), (0, .ref 0), (1, .int c)] [] (cm_h M) := by
  intro n
  induction n with
  | zero =>
    intro s a hs
    obtain rfl : s = 20 := by omega
    exact cw_run cw_kX3_isTrue cw_z 4 [true] [] [] (And.intro ((show nI 20 ≤ nI 20 from Int32.le_refl _)) (cw_retz cw_kX3_isTrue cw_z rfl rfl (cb_n01 _)))
  | succ n ih =>
    intro s a hs
    have h0 : ¬ nI 20 ≤ nI s := nI_ge (by omega) (by omega)
    have d0 : ¬ nI 10 = 0 := by decide
    have ih1 := fun b => ih (s + 1) b (by omega)
    rw [← nI_add s 1] at ih1
    unfold cm_tr
    cases a with
    | true =>
      rw [Bool.true_or]
      exact cw_run cw_kX3_isTrue cw_z 10 [false, true] [] [] (And.intro (h0) (And.intro (cb_nt.mpr rfl) (ih1 true)))
    | false =>
      rw [Bool.false_or]
      cases b : bt c s with
      | false =>
        rw [Bool.false_and]
        exact cw_run cw_kX3_isTrue cw_z 13 [false, false, true] [] [(_, _)] (And.intro (h0) (And.intro ((fun q => q (cb_n0.mpr rfl))) (And.intro (cm_has l _ _ (by omega)) (And.intro (Nat.le_refl _) (And.intro (cb_n0.mpr b) (ih1 false))))))
      | true =>
        rw [Bool.true_and]
        by_cases e : cm_st M (19 + s % 10) = cb_wa s
        · rw [decide_eq_true e]
          exact cw_run cw_kX3_isTrue cw_z 22 [false, false, false, false] [] [(_, _), (_, _), (_, _)] (And.intro (h0) (And.intro ((fun q => q (cb_n0.mpr rfl))) (And.intro (cm_has l _ _ (by omega)) (And.intro (Nat.le_refl _) (And.intro (cb_nt.mpr b) (And.intro (d0) (And.intro (cm_valueOfR l M (by omega)) (And.intro (Nat.le_refl _) (And.intro (cm_wanted l _ (by omega)) (And.intro (Nat.le_refl _) (And.intro ((fun q => q e)) (ih1 true))))))))))))
        · rw [decide_eq_false e]
          exact cw_run cw_kX3_isTrue cw_z 21 [false, false, false, true] [] [(_, _), (_, _), (_, _)] (And.intro (h0) (And.intro ((fun q => q (cb_n0.mpr rfl))) (And.intro (cm_has l _ _ (by omega)) (And.intro (Nat.le_refl _) (And.intro (cb_nt.mpr b) (And.intro (d0) (And.intro (cm_valueOfR l M (by omega)) (And.intro (Nat.le_refl _) (And.intro (cm_wanted l _ (by omega)) (And.intro (Nat.le_refl _) (And.intro (e) (ih1 false))))))))))))
theorem cm_isTrue (l : Launch) (M : cm_S) (c : Int32) : cw_M l mm_X3_isTrue 0 0 [.ref 0, .int c] (cm_h M) (some (.int (cb_n (cm_tr (cm_st M) c 19 1 false)))) (cm_h M) := by
  refine cw_enter cw_kX3_isTrue (by decide) (Nat.le_of_ble_eq_true rfl) ?_
  exact cw_run cw_kX3_isTrue cw_z 4 [] [] [] (cm_tr_loop l M c 19 1 false (by omega))
def cm_op (f : Nat → Int32) (c : Int32) : Nat → Nat → Nat → Nat
  | 0, _, a => a
  | n + 1, s, a => cm_op f c n (s + 1) (a + (if bt c s = true ∧ f (19 + s % 10) = -nI 6 then 1 else 0))
theorem cm_op_loop (l : Launch) (M : cm_S) (c : Int32) : ∀ n s a, s + n = 20 → cw_W l mm_X3_openIn 0 0 (cm_h M) (some (.int (nI (cm_op (cm_st M) c n s a)))) (cm_h M) 0 0 4 [(3, .int (nI s)), (2, .int (nI a)), (0, .ref 0), (1, .int c)] [] (cm_h M) := by
  intro n
  induction n with
  | zero =>
    intro s a hs
    obtain rfl : s = 20 := by omega
    exact cw_run cw_kX3_openIn cw_z 4 [true] [] [] (And.intro ((show nI 20 ≤ nI 20 from Int32.le_refl _)) (cw_reti cw_kX3_openIn cw_z rfl rfl))
  | succ n ih =>
    intro s a hs
    have h0 : ¬ nI 20 ≤ nI s := nI_ge (by omega) (by omega)
    have d0 : ¬ nI 10 = 0 := by decide
    unfold cm_op
    cases b : bt c s with
    | false =>
      rw [if_neg (by simp)]
      have ih1 := ih (s + 1) (a + 0) (by omega)
      rw [← nI_add s 1, ← nI_add a 0] at ih1
      exact cw_run cw_kX3_openIn cw_z 13 [false, true] [] [(_, _)] (And.intro (h0) (And.intro (cm_has l _ _ (by omega)) (And.intro (Nat.le_refl _) (And.intro (cb_n0.mpr b) (ih1)))))
    | true =>
      by_cases e : cm_st M (19 + s % 10) = -nI 6
      · rw [if_pos ⟨rfl, e⟩]
        have ih1 := ih (s + 1) (a + 1) (by omega)
        rw [← nI_add s 1, ← nI_add a 1] at ih1
        exact cw_run cw_kX3_openIn cw_z 21 [false, false, false] [] [(_, _), (_, _)] (And.intro (h0) (And.intro (cm_has l _ _ (by omega)) (And.intro (Nat.le_refl _) (And.intro (cb_nt.mpr b) (And.intro (d0) (And.intro (cm_valueOfR l M (by omega)) (And.intro (Nat.le_refl _) (And.intro ((fun q => q e)) (ih1)))))))))
      · rw [if_neg (fun q => e q.2)]
        have ih1 := ih (s + 1) (a + 0) (by omega)
        rw [← nI_add s 1, ← nI_add a 0] at ih1
        exact cw_run cw_kX3_openIn cw_z 20 [false, false, true] [] [(_, _), (_, _)] (And.intro (h0) (And.intro (cm_has l _ _ (by omega)) (And.intro (Nat.le_refl _) (And.intro (cb_nt.mpr b) (And.intro (d0) (And.intro (cm_valueOfR l M (by omega)) (And.intro (Nat.le_refl _) (And.intro (e) (ih1)))))))))
theorem cm_openIn (l : Launch) (M : cm_S) (c : Int32) : cw_M l mm_X3_openIn 0 0 [.ref 0, .int c] (cm_h M) (some (.int (nI (cm_op (cm_st M) c 19 1 0)))) (cm_h M) := by
  refine cw_enter cw_kX3_openIn (by decide) (Nat.le_of_ble_eq_true rfl) ?_
  exact cw_run cw_kX3_openIn cw_z 4 [] [] [] (cm_op_loop l M c 19 1 0 (by omega))
theorem cm_op_le (f : Nat → Int32) (c : Int32) : ∀ n s a, cm_op f c n s a ≤ a + n
  | 0, _, _ => Nat.le_refl _
  | n + 1, s, a => by
    have := cm_op_le f c n (s + 1) (a + (if bt c s = true ∧ f (19 + s % 10) = -nI 6 then 1 else 0))
    have h2 : (if bt c s = true ∧ f (19 + s % 10) = -nI 6 then 1 else 0) ≤ 1 := by split <;> omega
    unfold cm_op
    omega
def cm_opn (f : Nat → Int32) (c : Int32) : Nat := cm_op f c 19 1 0
def cm_tru (f : Nat → Int32) (c : Int32) : Bool := cm_tr f c 19 1 false
def cm_fa (f : Nat → Int32) (c : Int32) : Bool := decide (cm_opn f c = 0) && !cm_tru f c
theorem cm_isFalse (l : Launch) (M : cm_S) (c : Int32) : cw_M l mm_X3_isFalse 0 0 [.ref 0, .int c] (cm_h M) (some (.int (cb_n (cm_fa (cm_st M) c)))) (cm_h M) := by
  refine cw_enter cw_kX3_isFalse (by decide) (Nat.le_of_ble_eq_true rfl) ?_
  have h1 := cm_op_le (cm_st M) c 19 1 0
  by_cases a : cm_op (cm_st M) c 19 1 0 = 0
  · have a1 : nI (cm_op (cm_st M) c 19 1 0) = 0 := by rw [a]; rfl
    cases b : cm_tr (cm_st M) c 19 1 false with
    | true =>
      rw [show cm_fa (cm_st M) c = false by simp [cm_fa, cm_tru, b]]
      exact cw_run cw_kX3_isFalse cw_z 9 [false, true] [] [(_, _), (_, _)] (And.intro (cm_openIn l M c) (And.intro (Nat.le_refl _) (And.intro ((fun q => q a1)) (And.intro (cm_isTrue l M c) (And.intro (Nat.le_refl _) (And.intro (cb_nt.mpr b) (cw_retz cw_kX3_isFalse cw_z rfl rfl (Or.inl rfl))))))))
    | false =>
      rw [show cm_fa (cm_st M) c = true by simp [cm_fa, cm_tru, cm_opn, a, b]]
      exact cw_run cw_kX3_isFalse cw_z 10 [false, false] [] [(_, _), (_, _)] (And.intro (cm_openIn l M c) (And.intro (Nat.le_refl _) (And.intro ((fun q => q a1)) (And.intro (cm_isTrue l M c) (And.intro (Nat.le_refl _) (And.intro ((fun q => q (cb_n0.mpr b))) (cw_retz cw_kX3_isFalse cw_z rfl rfl (Or.inr rfl))))))))
  · rw [show cm_fa (cm_st M) c = false by simp [cm_fa, cm_opn, a]]
    have a1 : ¬ nI (cm_op (cm_st M) c 19 1 0) = 0 := nI_ne0 (by omega) (by omega)
    exact cw_run cw_kX3_isFalse cw_z 5 [true] [] [(_, _)] (And.intro (cm_openIn l M c) (And.intro (Nat.le_refl _) (And.intro (a1) (cw_retz cw_kX3_isFalse cw_z rfl rfl (Or.inl rfl)))))
/-- the sign of a clause that has a thing -/
def cm_so (c : Int32) (k : Nat) : Int32 := if bt c k then nI k else if bt c (k + 10) then nI (k + 10) else -nI 6
theorem cm_signOf (l : Launch) (h : cw_H) (c : Int32) {k : Nat} (hk : k ≤ 9) : cw_M l mm_X3_signOf 0 0 [.int c, .int (nI k)] h (some (.int (cm_so c k))) h := by
  refine cw_enter cw_kX3_signOf (by decide) (Nat.le_of_ble_eq_true rfl) ?_
  have h2 : cw_M l mm_X3_has 0 0 [.int c, .int (nI k + nI 10)] h (some (.int (cb_n (bt c (k + 10))))) h := by
    rw [nI_add]; exact cm_has l h c (by omega)
  cases b : bt c k with
  | true =>
    rw [show cm_so c k = nI k by simp [cm_so, b]]
    exact cw_run cw_kX3_signOf cw_z 6 [false] [] [(_, _)] (And.intro (cm_has l _ _ (by omega)) (And.intro (Nat.le_refl _) (And.intro (cb_nt.mpr b) (cw_reti cw_kX3_signOf cw_z rfl rfl))))
  | false =>
    cases b2 : bt c (k + 10) with
    | true =>
      rw [show cm_so c k = nI k + nI 10 by simp [cm_so, b, b2, nI_add]]
      exact cw_run cw_kX3_signOf cw_z 14 [true, false] [] [(_, _), (_, _)] (And.intro (cm_has l _ _ (by omega)) (And.intro (Nat.le_refl _) (And.intro (cb_n0.mpr b) (And.intro (h2) (And.intro (Nat.le_refl _) (And.intro (cb_nt.mpr b2) (cw_reti cw_kX3_signOf cw_z rfl rfl)))))))
    | false =>
      rw [show cm_so c k = -nI 6 by simp [cm_so, b, b2]]
      exact cw_run cw_kX3_signOf cw_z 11 [true, true] [] [(_, _), (_, _)] (And.intro (cm_has l _ _ (by omega)) (And.intro (Nat.le_refl _) (And.intro (cb_n0.mpr b) (And.intro (h2) (And.intro (Nat.le_refl _) (And.intro (cb_n0.mpr b2) (cw_reti cw_kX3_signOf cw_z rfl rfl)))))))
def cm_wo (c : Int32) (x : Int32) : Int32 := c &&& (((nI 1 <<< (x &&& 31)) ||| (nI 1 <<< ((x + nI 10) &&& 31))) ^^^ (-nI 1))
theorem cm_without (l : Launch) (h : cw_H) (c x : Int32) : cw_M l mm_X3_without 0 0 [.int c, .int x] h (some (.int (cm_wo c x))) h := by
  refine cw_enter cw_kX3_without (by decide) (Nat.le_of_ble_eq_true rfl) ?_
  exact cw_run cw_kX3_without cw_z 13 [] [] [] (cw_reti cw_kX3_without cw_z rfl rfl)
/-- a thing forgotten -/
def cm_fg (f : Nat → Int32) (x : Nat) : Nat → Int32 := upd (upd (upd f (19 + x) (-nI 6)) (29 + x) (-nI 6)) (39 + x) (-nI 6)
theorem cm_forget (l : Launch) (M : cm_S) {x : Nat} (hx : x ≤ 9) : cw_M l mm_X3_forget 0 0 [.ref 0, .int (nI x)] (cm_h M) none (cm_h (cm_wst M (cm_fg (cm_st M) x))) := by
  refine cw_enter cw_kX3_forget (by decide) (Nat.le_of_ble_eq_true rfl) ?_
  exact cw_run cw_kX3_forget cw_z 21 [] [_, _, _] [] (And.intro (nI_add 19 x) (And.intro ((show 19 + x < 109 by omega)) (And.intro (nI_add 29 x) (And.intro ((show 29 + x < 109 by omega)) (And.intro (nI_add 39 x) (And.intro ((show 39 + x < 109 by omega)) (cw_retv cw_kX3_forget cw_z rfl rfl)))))))
