/-! p24: one step of the law's search -/
abbrev pl_M : cw_LV := [(0, .ref 0), (1, .ref 1), (2, .ref 2), (3, .ref 3), (4, .ref 4), (5, .ref 5)]
section PL4
variable {l : Launch} {y : Int32} {S : cs_S} {f q on ze le re tr : Nat → Int32} {h0 h1 : cw_H}
theorem pr_sp (hr : pr y S q on ze le re tr) (z : Int32) : pr z S (upd q 9 z) on ze le re tr :=
  ⟨⟨hr.1.1, hr.1.2.1, hr.1.2.2.1, hr.1.2.2.2.1, hr.1.2.2.2.2.1, hr.1.2.2.2.2.2.1, hr.1.2.2.2.2.2.2.1, hr.1.2.2.2.2.2.2.2.1, hr.1.2.2.2.2.2.2.2.2.1, rfl⟩, hr.2.1, hr.2.2.1, hr.2.2.2⟩
theorem pr_sd (hr : pr y S q on ze le re tr) (z : Int32) : pr y (cs_wsd S z) (upd q 5 z) on ze le re tr :=
  ⟨⟨hr.1.1, hr.1.2.1, hr.1.2.2.1, hr.1.2.2.2.1, hr.1.2.2.2.2.1, rfl, hr.1.2.2.2.2.2.2.1, hr.1.2.2.2.2.2.2.2.1, hr.1.2.2.2.2.2.2.2.2.1, hr.1.2.2.2.2.2.2.2.2.2⟩, hr.2.1, hr.2.2.1, hr.2.2.2⟩
/-- the first false clause -/
theorem pl_s1 (h : crp y S f) (hr : pr y S q on ze le re tr) (K0 : cs_fu0 S = -nI 6 → cw_W l mm_L_step 0 0 h0 none h1 0 0 86 ((7, .int (nI (cs_t S + cs_n S))) :: (6, .int (nI (cs_t S + cs_n S))) :: pl_M) [] (pl_h q on ze le re tr)) (K1 : ∀ j, j < cs_t S + cs_n S → cs_fu0 S = nI j → cw_W l mm_L_step 0 0 h0 none h1 0 0 52 ((7, .int (nI j)) :: (6, .int (nI (cs_t S + cs_n S))) :: pl_M) [] (pl_h q on ze le re tr)) : ∀ n k, k + n = cs_t S + cs_n S → cs_fu S (nI 0) n k = cs_fu0 S → cw_W l mm_L_step 0 0 h0 none h1 0 0 20 ((7, .int (nI k)) :: (6, .int (nI (cs_t S + cs_n S))) :: pl_M) [] (pl_h q on ze le re tr) := by
  have n60 := cr_n60 h
  intro n
  induction n with
  | zero =>
    intro k hk e
    obtain rfl : k = cs_t S + cs_n S := by omega
    exact cw_run cw_kL_step cw_z 3 [true] [] [] (And.intro (Int32.le_refl _) (K0 e.symm))
  | succ n ih =>
    intro k hk e
    have hkk : k < cs_t S + cs_n S := by omega
    have k61 : k < 61 := by omega
    have m0 : ¬ nI (cs_t S + cs_n S) ≤ nI k := nI_ge hkk (by omega)
    have et := pr_tr h.1 hr hkk
    have eo := pr_op0 h.1 hr hkk
    rw [show cs_fu S (nI 0) (n + 1) k = if cs_tr S (cs_cl S k) then cs_fu S (nI 0) n (k + 1) else if cb_bc (cs_op S (cs_cl S k)) = nI 0 then nI k else cs_fu S (nI 0) n (k + 1) from rfl] at e
    cases b : cs_tr S (cs_cl S k) with
    | true =>
      rw [b, if_pos rfl] at e
      have ih1 := ih (k + 1) (by omega) e
      rw [← nI_add k 1] at ih1
      exact cw_run cw_kL_step cw_z 11 [false, true] [] [(_, _)] (And.intro (m0) (And.intro (pl_isTrue k61) (And.intro (Nat.le_refl _) (And.intro (cb_nt.mpr (et.trans b)) (ih1)))))
    | false =>
      rw [b, if_neg (by decide)] at e
      by_cases d : cb_bc (cs_op S (cs_cl S k)) = nI 0
      · rw [if_pos d] at e
        exact cw_run cw_kL_step cw_z 15 [false, false, true] [] [(_, _), (_, _)] (And.intro (m0) (And.intro (pl_isTrue k61) (And.intro (Nat.le_refl _) (And.intro ((fun z => z (cb_n0.mpr (et.trans b)))) (And.intro (pl_open k61) (And.intro (Nat.le_refl _) (And.intro (eo.mpr d) (K1 k hkk e.symm))))))))
      · rw [if_neg d] at e
        have ih1 := ih (k + 1) (by omega) e
        rw [← nI_add k 1] at ih1
        exact cw_run cw_kL_step cw_z 18 [false, false, false] [] [(_, _), (_, _)] (And.intro (m0) (And.intro (pl_isTrue k61) (And.intro (Nat.le_refl _) (And.intro ((fun z => z (cb_n0.mpr (et.trans b)))) (And.intro (pl_open k61) (And.intro (Nat.le_refl _) (And.intro ((fun z => d (eo.mp z))) (ih1))))))))
/-- the first clause that tells -/
theorem pl_s2 (h : crp y S f) (hr : pr y S q on ze le re tr) (K0 : cs_fu1 S = -nI 6 → cw_W l mm_L_step 0 0 h0 none h1 0 0 182 ((7, .int (nI (cs_t S + cs_n S))) :: (6, .int (nI (cs_t S + cs_n S))) :: pl_M) [] (pl_h q on ze le re tr)) (K1 : ∀ j, j < cs_t S + cs_n S → cs_fu1 S = nI j → cw_W l mm_L_step 0 0 h0 none h1 0 0 129 ((8, .int (pl_op q on ze j)) :: (7, .int (nI j)) :: (6, .int (nI (cs_t S + cs_n S))) :: pl_M) [] (pl_h q on ze le re tr)) : ∀ n k, k + n = cs_t S + cs_n S → cs_fu S (nI 1) n k = cs_fu1 S → cw_W l mm_L_step 0 0 h0 none h1 0 0 89 ((7, .int (nI k)) :: (6, .int (nI (cs_t S + cs_n S))) :: pl_M) [] (pl_h q on ze le re tr) := by
  have n60 := cr_n60 h
  intro n
  induction n with
  | zero =>
    intro k hk e
    obtain rfl : k = cs_t S + cs_n S := by omega
    exact cw_run cw_kL_step cw_z 3 [true] [] [] (And.intro (Int32.le_refl _) (K0 e.symm))
  | succ n ih =>
    intro k hk e
    have hkk : k < cs_t S + cs_n S := by omega
    have k61 : k < 61 := by omega
    have m0 : ¬ nI (cs_t S + cs_n S) ≤ nI k := nI_ge hkk (by omega)
    have et := pr_tr h.1 hr hkk
    obtain ⟨x1, x2, x3⟩ := pr_opx h.1 hr hkk
    have hle := fb_ct_le (bt (cs_op S (cs_cl S k))) 20
    have eb := pl_bits l (pl_h q on ze le re tr) x1
    rw [x2, ← x3] at eb
    rw [show cs_fu S (nI 1) (n + 1) k = if cs_tr S (cs_cl S k) then cs_fu S (nI 1) n (k + 1) else if cb_bc (cs_op S (cs_cl S k)) = nI 1 then nI k else cs_fu S (nI 1) n (k + 1) from rfl] at e
    cases b : cs_tr S (cs_cl S k) with
    | true =>
      rw [b, if_pos rfl] at e
      have ih1 := ih (k + 1) (by omega) e
      rw [← nI_add k 1] at ih1
      exact cw_run cw_kL_step cw_z 17 [false, true] [] [(_, _), (_, _)] (And.intro (m0) (And.intro (pl_open k61) (And.intro (Nat.le_refl _) (And.intro (pl_isTrue k61) (And.intro (Nat.le_refl _) (And.intro (cb_nt.mpr (et.trans b)) (cw_less [0, 2, 3, 4, 5, 6, 7, 8] rfl ih1)))))))
    | false =>
      rw [b, if_neg (by decide)] at e
      by_cases d : cb_bc (cs_op S (cs_cl S k)) = nI 1
      · rw [if_pos d] at e
        exact cw_run cw_kL_step cw_z 19 [false, false, true] [] [(_, _), (_, _), (_, _)] (And.intro (m0) (And.intro (pl_open k61) (And.intro (Nat.le_refl _) (And.intro (pl_isTrue k61) (And.intro (Nat.le_refl _) (And.intro ((fun z => z (cb_n0.mpr (et.trans b)))) (And.intro (eb) (And.intro (Nat.le_refl _) (And.intro (d) (K1 k hkk e.symm))))))))))
      · rw [if_neg d] at e
        have ih1 := ih (k + 1) (by omega) e
        rw [← nI_add k 1] at ih1
        exact cw_run cw_kL_step cw_z 22 [false, false, false] [] [(_, _), (_, _), (_, _)] (And.intro (m0) (And.intro (pl_open k61) (And.intro (Nat.le_refl _) (And.intro (pl_isTrue k61) (And.intro (Nat.le_refl _) (And.intro ((fun z => z (cb_n0.mpr (et.trans b)))) (And.intro (eb) (And.intro (Nat.le_refl _) (And.intro (d) (cw_less [0, 2, 3, 4, 5, 6, 7, 8] rfl ih1))))))))))
/-- the thing of a set of one -/
theorem pl_s3 {x : Nat} (hx : x ≤ 9) {kk NN : Int32} (K : cw_W l mm_L_step 0 0 h0 none h1 0 0 147 ((9, .int (nI x)) :: (8, .int (nI 1 <<< (nI x &&& 31))) :: (7, .int kk) :: (6, .int NN) :: pl_M) [] (pl_h q on ze le re tr)) : ∀ n t, t + n = x → cw_W l mm_L_step 0 0 h0 none h1 0 0 132 ((9, .int (nI t)) :: (8, .int (nI 1 <<< (nI x &&& 31))) :: (7, .int kk) :: (6, .int NN) :: pl_M) [] (pl_h q on ze le re tr) := by
  intro n
  induction n with
  | zero =>
    intro t ht
    obtain rfl : t = x := by omega
    exact cw_run cw_kL_step cw_z 5 [true] [] [] (And.intro (rfl) (K))
  | succ n ih =>
    intro t ht
    have ih1 := ih (t + 1) (by omega)
    rw [← nI_add t 1] at ih1
    refine cw_run cw_kL_step cw_z 7 [false] [] [] (And.intro ((fun z => ?_)) (ih1))
    have z2 := congrArg (fun w => bt w x) z
    have z3 : bt (nI 1 <<< (nI x &&& 31)) x = bt (nI 1 <<< (nI t &&& 31)) x := z2
    rw [cb_one (by omega) (by omega), cb_one (by omega) (by omega), decide_eq_true rfl, decide_eq_false (show ¬ x = t by omega)] at z3
    cases z3
/-- is a thing without value? -/
theorem pr_free (h : cr_I S) (hr : pr y S q on ze le re tr) {t : Nat} (h1 : 1 ≤ t) (ht : t ≤ cs_k S) : cs_op S (nI 1 <<< (nI t &&& 31)) = 0 ↔ bt (q 10 ||| q 11) t = true := by
  have h9 := cr_k9 h
  have hs : cr_sg (cs_k S) t := Or.inl ⟨h1, ht⟩
  have hc := cr_c_set h9 hs
  have op : cr_op t = t + 10 := by unfold cr_op; rw [if_pos (by omega)]
  show cs_op S (cb_set (nI t)) = 0 ↔ _
  rw [b_or, Bool.or_eq_true, (hr.2.1 t (by omega)).1, (hr.2.1 t (by omega)).2, cb_zero]
  constructor
  · intro z
    have z1 := z t (by omega)
    cases v1 : bt (cs_va S) t with
    | true => exact Or.inl ⟨by omega, rfl⟩
    | false =>
      cases v2 : bt (cs_va S) (t + 10) with
      | true => exact Or.inr rfl
      | false =>
        rw [(cr_op_bt h hc (i := t) (by omega)).mpr ⟨by rw [cb_set_bt (by omega) (by omega)]; exact decide_eq_true rfl, v1, by rw [op]; exact v2⟩] at z1
        cases z1
  · intro z i hi
    cases b : bt (cs_op S (cb_set (nI t))) i with
    | false => rfl
    | true =>
      obtain ⟨a1, a2, a3⟩ := (cr_op_bt h hc hi).mp b
      rw [cb_set_bt (by omega) hi, decide_eq_true_eq] at a1
      subst a1
      rw [op] at a3
      rcases z with z | z
      · rw [a2] at z; cases z.2
      · rw [a3] at z; cases z
/-- the lowest thing without value -/
theorem pl_s4 (h : crp y S f) (hr : pr y S q on ze le re tr) (K0 : cs_lo S = -nI 6 → cw_W l mm_L_step 0 0 h0 none h1 0 0 254 pl_M [] (pl_h q on ze le re tr)) (K1 : ∀ x, 1 ≤ x → x ≤ cs_k S → cs_lo S = nI x → cw_W l mm_L_step 0 0 h0 none h1 0 0 214 ((7, .int (nI x)) :: pl_M) [] (pl_h q on ze le re tr)) : ∀ n t, t + n = cs_k S + 1 → 1 ≤ t → cs_low S n t = cs_lo S → cw_W l mm_L_step 0 0 h0 none h1 0 0 185 ((7, .int (nI t)) :: pl_M) [] (pl_h q on ze le re tr) := by
  have h9 := cr_k9 h.1
  have q0 : q 0 = nI (cs_k S) := hr.1.1.trans h.1.1.1.2.2.2.1
  intro n
  induction n with
  | zero =>
    intro t ht h1 e
    exact cw_run cw_kL_step cw_z 5 [true] [_] [] (And.intro (rfl) (And.intro (Nat.le_of_ble_eq_true rfl) (And.intro ((show q 0 < nI t by rw [q0]; exact nI_lt (by omega) (by omega))) (cw_less [1, 2, 3, 4, 5, 6] rfl (K0 e.symm)))))
  | succ n ih =>
    intro t ht h1 e
    have m0 : ¬ q 0 < nI t := by rw [q0]; exact nI_nlt (by omega) (by omega)
    have ef := pr_free h.1 hr h1 (show t ≤ cs_k S by omega)
    rw [show cs_low S (n + 1) t = if cs_op S (nI 1 <<< (nI t &&& 31)) = 0 then cs_low S n (t + 1) else nI t from rfl] at e
    cases b : bt (q 10 ||| q 11) t with
    | true =>
      rw [if_pos (ef.mpr b)] at e
      have ih1 := ih (t + 1) (by omega) (by omega) e
      rw [← nI_add t 1] at ih1
      exact cw_run cw_kL_step cw_z 21 [false, false] [_, _, _] [] (And.intro (rfl) (And.intro (Nat.le_of_ble_eq_true rfl) (And.intro (m0) (And.intro (rfl) (And.intro (Nat.le_of_ble_eq_true rfl) (And.intro (rfl) (And.intro (Nat.le_of_ble_eq_true rfl) (And.intro ((show ¬ ¬ ((q 10 ||| q 11) >>> (nI t &&& 31)) &&& nI 1 = nI 1 by rw [pl_b1 (by omega), b]; exact fun z => z rfl)) (ih1)))))))))
    | false =>
      rw [if_neg (fun z => by rw [ef.mp z] at b; cases b)] at e
      exact cw_run cw_kL_step cw_z 18 [false, true] [_, _, _] [] (And.intro (rfl) (And.intro (Nat.le_of_ble_eq_true rfl) (And.intro (m0) (And.intro (rfl) (And.intro (Nat.le_of_ble_eq_true rfl) (And.intro (rfl) (And.intro (Nat.le_of_ble_eq_true rfl) (And.intro ((show ¬ ((q 10 ||| q 11) >>> (nI t &&& 31)) &&& nI 1 = nI 1 by rw [pl_b1 (by omega), b]; decide)) (K1 t h1 (by omega) e.symm)))))))))
end PL4
