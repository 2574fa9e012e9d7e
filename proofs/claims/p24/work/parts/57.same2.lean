/-! p24: all clauses, all counts -/
section PS2
variable {l : Launch} {u : Int32} {S T : cs_S} {H G : Nat → Option Nat} {g : Nat → Int32} {pl : Int32} {L : List cs_S} {f q on ze le re tr : Nat → Int32} {h0 h1 : cw_H}
/-- a thing has a sign in a clause -/
theorem pr_thing (h : cr_I S) {c o z : Int32} (hc : cr_c (cs_k S) c) (hp : pr_c c o z) {t : Nat} (h1 : 1 ≤ t) (ht : t ≤ 9) : (bt (c ||| cb_op c) t = true ↔ bt o t = true ∨ bt z t = true) ∧ (bt c t = true ↔ bt o t = true) := by
  have e := cb_op_bt (pr_sg h hc) (i := t) (by omega)
  have op : cr_op t = t + 10 := by unfold cr_op; rw [if_pos (by omega)]
  rw [b_or, Bool.or_eq_true, e, op, (hp t (by omega)).1, (hp t (by omega)).2]
  refine ⟨⟨?_, ?_⟩, fun w => ⟨by omega, w⟩, fun w => w.2⟩
  · rintro (w | w)
    · exact Or.inl ⟨by omega, w⟩
    · exact Or.inr w.2
  · rintro (w | w)
    · exact Or.inl w.2
    · exact Or.inr ⟨Or.inl ⟨h1, ht⟩, w⟩
theorem cb_tc_le (c : Int32) (t : Nat) : cb_tc c t ≤ t - 1 := fb_ct_le _ _
/-- all signs of a clause: as many as its things -/
theorem cb_tc_all (h : cr_I S) {c : Int32} (hc : cr_c (cs_k S) c) : cb_bc c = nI (cb_tc c 10) := by
  have hsg := pr_sg h hc
  have hlo := cr_c_lo (cr_k9 h) hc
  rw [cb_pop hlo]
  congr 1
  have b0 : bt c 0 = false := by
    cases w : bt c 0 with
    | false => rfl
    | true => have := cr_sg9 (Nat.le_refl 9) (hsg 0 (by omega) w); omega
  have b10 : bt c 10 = false := by
    cases w : bt c 10 with
    | false => rfl
    | true => have := cr_sg9 (Nat.le_refl 9) (hsg 10 (by omega) w); omega
  have e1 := fb_ct_split (bt c) 1 19
  have e2 := fb_ct_split (fun k => bt c (1 + k)) 9 10
  have e3 := fb_ct_split (fun k => bt c (1 + (9 + k))) 1 9
  have z1 : fb_ct (bt c) 1 = 0 := fb_ct_zero.mpr (fun k hk => by rw [show k = 0 by omega]; exact b0)
  have z2 : fb_ct (fun k => bt c (1 + (9 + k))) 1 = 0 := fb_ct_zero.mpr (fun k hk => by rw [show k = 0 by omega]; exact b10)
  have e4 : fb_ct (fun j => bt c (1 + j) || bt c (1 + (9 + (1 + j)))) 9 = fb_ct (fun j => bt c (1 + j)) 9 + fb_ct (fun j => bt c (1 + (9 + (1 + j)))) 9 := fb_ct_or (fun k hk => by
    rintro ⟨w1, w2⟩
    exact hc.2 (1 + k) (by omega) (by omega) ⟨w1, by rw [show 1 + k + 10 = 1 + (9 + (1 + k)) by omega]; exact w2⟩)
  have e5 : fb_ct (fun j => bt (c ||| cb_op c) (j + 1)) 9 = fb_ct (fun j => bt c (1 + j) || bt c (1 + (9 + (1 + j)))) 9 := fb_ct_cong (fun k hk => by
    have op : cr_op (k + 1) = k + 1 + 10 := by unfold cr_op; rw [if_pos (by omega)]
    have e := cb_op_bt hsg (i := k + 1) (by omega)
    rw [op] at e
    rw [b_or, show 1 + k = k + 1 by omega, show 1 + (9 + (k + 1)) = k + 1 + 10 by omega]
    cases w : bt c (k + 1 + 10) with
    | true => rw [e.mpr ⟨Or.inl ⟨by omega, by omega⟩, w⟩]
    | false =>
      cases w2 : bt (cb_op c) (k + 1) with
      | false => rfl
      | true => rw [(e.mp w2).2] at w; cases w)
  show fb_ct (bt c) 20 = fb_ct (fun j => bt (c ||| cb_op c) (j + 1)) 9
  rw [e5, e4, show 20 = 1 + 19 from rfl, e1, z1, show 19 = 9 + 10 from rfl, e2, show 10 = 1 + 9 from rfl, e3, z2]
  omega
/-- a clause's signs, one after the other -/
theorem ps_signs (h : cr_I S) (hr : pr (cs_sp S) S q on ze le re tr) {k : Nat} (hk : k < cs_t S + cs_n S) (K : cw_W l mm_L_same 0 0 h0 (some (.int (nI 1))) h1 0 0 310 ((9, .int (nI 10)) :: (8, .int (nI (cb_tc (cs_cl S k) 10))) :: (7, .int (nI k)) :: pl_N) [] (px_h q on ze le re tr (cc_h u S T H G g pl L))) : ∀ n t, t + n = 10 → 1 ≤ t → cw_W l mm_L_same 0 0 h0 (some (.int (nI 1))) h1 0 0 231 ((9, .int (nI t)) :: (8, .int (nI (cb_tc (cs_cl S k) t))) :: (7, .int (nI k)) :: pl_N) [] (px_h q on ze le re tr (cc_h u S T H G g pl L)) := by
  have hB := h.1.1
  have n60 : cs_t S + cs_n S ≤ 60 := by have := hB.2.1.2; have := hB.2.2.1.2; omega
  have hc := h.2.1 k hk
  have hp := hr.2.2.1 k hk
  have hbe : cb_be (nI k) (cs_to S + cs_le S) = true := by
    rw [hB.2.1.1, hB.2.2.1.1, nI_add]
    exact decide_eq_true ⟨nI_pos (by omega), nI_lt hk (by omega)⟩
  have k61 : k < 61 := by omega
  intro n
  induction n with
  | zero =>
    intro t ht h1
    obtain rfl : t = 10 := by omega
    exact cw_run cw_kL_same cw_z 3 [true] [] [] (And.intro ((show nI 10 ≤ nI 10 from Int32.le_refl _)) (K))
  | succ n ih =>
    intro t ht h1
    have t9 : t ≤ 9 := by omega
    have m0 : ¬ nI 10 ≤ nI t := nI_ge (by omega) (by omega)
    have ih1 := ih (t + 1) (by omega) (by omega)
    rw [← nI_add t 1] at ih1
    have es := cb_tc_s (cs_cl S k) h1
    have ⟨th1, th2⟩ := pr_thing h hc hp h1 t9
    have hle := cb_tc_le (cs_cl S k) t
    -- the class's answer at the next sign
    have ans : bt (cs_cl S k ||| cb_op (cs_cl S k)) t = true → cw_M l mm_X2_clause 0 0 [.ref 6, .int (nI k), .int (nI (cb_tc (cs_cl S k) t + 1))] (px_h q on ze le re tr (cc_h u S T H G g pl L)) (some (.int (if bt (cs_cl S k) t then nI t else nI (t + 10)))) (px_h q on ze le re tr (cc_h u S T H G g pl L)) := by
      intro b
      have o := px_cls (q := q) (on := on) (ze := ze) (le := le) (re := re) (tr := tr) (cc_clause_ok (l := l) (u := u) (N := S) (T := T) (H := H) (G := G) (f := g) (pl := pl) (L := L) (k := k) (j := cb_tc (cs_cl S k) t + 1) hbe (by omega) (by omega)) rfl
      have e : cc_cla S (cs_cl S k) (cb_tc (cs_cl S k) t + 1) = if bt (cs_cl S k) t then nI t else nI (t + 10) := by
        unfold cc_cla
        rw [if_neg (by omega), if_neg (by omega), if_neg (by omega), if_neg (by omega), cb_sio_skip _ (by omega) (t - 1) t (by omega) (by omega) (Nat.lt_succ_self _), show 10 - t = (10 - (t + 1)) + 1 by omega]
        unfold cb_sio
        rw [if_pos b, if_pos (nI_add _ 1)]
      rw [e] at o
      exact o
    cases bo : bt (on k) t with
    | true =>
      have a := ans (th1.mpr (Or.inl bo))
      rw [if_pos (th1.mpr (Or.inl bo))] at es
      rw [if_pos (th2.mpr bo)] at a
      rw [es, ← nI_add (cb_tc (cs_cl S k) t) 1] at ih1
      rw [← nI_add (cb_tc (cs_cl S k) t) 1] at a
      exact cw_run cw_kL_same cw_z 26 [false, false, false, true] [_] [(_, _)] (And.intro (m0) (And.intro (rfl) (And.intro (k61) (And.intro ((show ¬ ¬ (on k >>> (nI t &&& 31)) &&& nI 1 = nI 1 by rw [pl_b1 (by omega), bo]; exact fun z => z rfl)) (And.intro ((show ¬ nI t ≤ 0 from nI_nle (by omega) (by omega))) (And.intro (a) (And.intro (Nat.le_refl _) (And.intro (rfl) (cw_less [0, 1, 3, 4, 5, 6, 7, 8, 9, 10] rfl ih1)))))))))
    | false =>
      have no : ¬ (on k >>> (nI t &&& 31)) &&& nI 1 = nI 1 := by rw [pl_b1 (by omega), bo]; decide
      cases bz : bt (ze k) t with
      | true =>
        have a := ans (th1.mpr (Or.inr bz))
        rw [if_pos (th1.mpr (Or.inr bz))] at es
        rw [if_neg (fun z => by rw [th2.mp z] at bo; cases bo)] at a
        rw [es, ← nI_add (cb_tc (cs_cl S k) t) 1] at ih1
        rw [← nI_add (cb_tc (cs_cl S k) t) 1, show t + 10 = 10 + t by omega, ← nI_add 10 t] at a
        exact cw_run cw_kL_same cw_z 37 [false, true, false, false, true] [_, _] [(_, _)] (And.intro (m0) (And.intro (rfl) (And.intro (k61) (And.intro (no) (And.intro (rfl) (And.intro (k61) (And.intro ((show ¬ ¬ (ze k >>> (nI t &&& 31)) &&& nI 1 = nI 1 by rw [pl_b1 (by omega), bz]; exact fun z => z rfl)) (And.intro ((show ¬ nI 10 + nI t ≤ 0 by rw [nI_add]; exact nI_nle (by omega) (by omega))) (And.intro (a) (And.intro (Nat.le_refl _) (And.intro (rfl) (cw_less [0, 1, 3, 4, 5, 6, 7, 8, 9, 10] rfl ih1))))))))))))
      | false =>
        rw [if_neg (fun z => by rcases th1.mp z with w | w; · rw [bo] at w; cases w
                                · rw [bz] at w; cases w), Nat.add_zero] at es
        rw [es] at ih1
        exact cw_run cw_kL_same cw_z 27 [false, true, true, true] [_, _] [] (And.intro (m0) (And.intro (rfl) (And.intro (k61) (And.intro (no) (And.intro (rfl) (And.intro (k61) (And.intro ((show ¬ (ze k >>> (nI t &&& 31)) &&& nI 1 = nI 1 by rw [pl_b1 (by omega), bz]; decide)) (And.intro ((show -nI 6 ≤ 0 by decide)) (cw_less [0, 2, 3, 4, 5, 6, 7, 8, 9, 10] rfl ih1)))))))))
/-- a clause's other answers -/
theorem ps_clause (h : cr_I S) (hr : pr (cs_sp S) S q on ze le re tr) {k : Nat} (hk : k < cs_t S + cs_n S) (K : cw_W l mm_L_same 0 0 h0 (some (.int (nI 1))) h1 0 0 213 ((7, .int (nI (k + 1))) :: pl_N) [] (px_h q on ze le re tr (cc_h u S T H G g pl L))) : cw_W l mm_L_same 0 0 h0 (some (.int (nI 1))) h1 0 0 310 ((9, .int (nI 10)) :: (8, .int (nI (cb_tc (cs_cl S k) 10))) :: (7, .int (nI k)) :: pl_N) [] (px_h q on ze le re tr (cc_h u S T H G g pl L)) := by
  have hB := h.1.1
  have n60 : cs_t S + cs_n S ≤ 60 := by have := hB.2.1.2; have := hB.2.2.1.2; omega
  have hc := h.2.1 k hk
  have hbe : cb_be (nI k) (cs_to S + cs_le S) = true := by
    rw [hB.2.1.1, hB.2.2.1.1, nI_add]
    exact decide_eq_true ⟨nI_pos (by omega), nI_lt hk (by omega)⟩
  have k61 : k < 61 := by omega
  have hle := cb_tc_le (cs_cl S k) 10
  have ft := fb_ct_le (bt (cs_op S (cs_cl S k))) 20
  obtain ⟨x1, x2, x3⟩ := pr_opx h hr hk
  have et := pr_tr h hr hk
  have o := fun j (hj : j ≤ 12) => px_cls (q := q) (on := on) (ze := ze) (le := le) (re := re) (tr := tr) (cc_clause_ok (l := l) (u := u) (N := S) (T := T) (H := H) (G := G) (f := g) (pl := pl) (L := L) (k := k) (j := j) hbe (by omega) hj) rfl
  have o0 := o 0 (by omega)
  rw [show cc_cla S (cs_cl S k) 0 = nI (cb_tc (cs_cl S k) 10) from cb_tc_all h hc] at o0
  have o10 := o 10 (by omega)
  rw [show cc_cla S (cs_cl S k) 10 = cb_n (cs_tr S (cs_cl S k)) from rfl] at o10
  have o11 := o 11 (by omega)
  rw [show cc_cla S (cs_cl S k) 11 = cb_n (!cs_tr S (cs_cl S k) && decide (cs_op S (cs_cl S k) = 0)) from rfl] at o11
  have o12 := o 12 (by omega)
  rw [show cc_cla S (cs_cl S k) 12 = cb_bc (cs_op S (cs_cl S k)) from rfl, x3] at o12
  have ai := px_arr (C := cc_h u S T H G g pl L) (pl_isTrue (l := l) (q := q) (on := on) (ze := ze) (le := le) (re := re) (tr := tr) k61)
  rw [et] at ai
  have ao := px_arr (C := cc_h u S T H G g pl L) (pl_open (l := l) (q := q) (on := on) (ze := ze) (le := le) (re := re) (tr := tr) k61)
  have ab := pl_bits l (px_h q on ze le re tr (cc_h u S T H G g pl L)) x1
  rw [x2] at ab
  have eop : cs_op S (cs_cl S k) = 0 ↔ fb_ct (bt (cs_op S (cs_cl S k))) 20 = 0 := by
    rw [fb_ct_zero, cb_zero]
    constructor
    · intro z i hi; exact z i (by omega)
    · intro z i hi
      cases w : bt (cs_op S (cs_cl S k)) i with
      | false => rfl
      | true =>
        have := cr_sg9 (Nat.le_refl 9) (pr_sg h hc i hi ((cr_op_bt h hc hi).mp w).1)
        rw [z i (by omega)] at w
        cases w
  generalize fb_ct (bt (cs_op S (cs_cl S k))) 20 = m at *
  have K2 := K
  rw [← nI_add k 1] at K2
  -- behind the signs
  have tail : ∀ {x9 : Bool}, cs_tr S (cs_cl S k) = x9 → cw_W l mm_L_same 0 0 h0 (some (.int (nI 1))) h1 0 0 367 ((10, .int (nI m)) :: (9, .int (cb_n x9)) :: (8, .int (nI (cb_tc (cs_cl S k) 10))) :: (7, .int (nI k)) :: pl_N) [] (px_h q on ze le re tr (cc_h u S T H G g pl L)) := by
    intro x9 e
    rw [e] at o10 o11
    cases x9 with
    | true =>
      exact cw_run cw_kL_same cw_z 25 [false, false, true, false, true] [] [(_, _), (_, _), (_, _)] (And.intro (o10) (And.intro (Nat.le_refl _) (And.intro (cb_nt.mpr rfl) (And.intro ((show ¬ ¬ cb_n true = nI 1 from fun z => z rfl)) (And.intro (o11) (And.intro (Nat.le_refl _) (And.intro (cb_nt.mpr rfl) (And.intro ((show ¬ ¬ cb_n (!true && decide (cs_op S (cs_cl S k) = 0)) = nI 0 from fun z => z rfl)) (And.intro (o12) (And.intro (Nat.le_refl _) (And.intro (rfl) (cw_less [0, 4, 5, 6, 7, 8, 9, 10] rfl K2))))))))))))
    | false =>
      by_cases d : m = 0
      · rw [decide_eq_true (eop.mpr d)] at o11
        exact cw_run cw_kL_same cw_z 27 [true, false, false, false, false, true] [] [(_, _), (_, _), (_, _)] (And.intro (o10) (And.intro (Nat.le_refl _) (And.intro (cb_n0.mpr rfl) (And.intro ((show ¬ ¬ cb_n false = nI 0 from fun z => z rfl)) (And.intro (o11) (And.intro (Nat.le_refl _) (And.intro ((fun z => z (cb_n0.mpr rfl))) (And.intro ((show ¬ ¬ nI m = 0 from fun z => z (by rw [d]; rfl))) (And.intro ((show ¬ ¬ cb_n (!false && true) = nI 1 from fun z => z rfl)) (And.intro (o12) (And.intro (Nat.le_refl _) (And.intro (rfl) (cw_less [0, 4, 5, 6, 7, 8, 9, 10] rfl K2)))))))))))))
      · rw [decide_eq_false (fun z => d (eop.mp z))] at o11
        exact cw_run cw_kL_same cw_z 26 [true, false, false, true, false, true] [] [(_, _), (_, _), (_, _)] (And.intro (o10) (And.intro (Nat.le_refl _) (And.intro (cb_n0.mpr rfl) (And.intro ((show ¬ ¬ cb_n false = nI 0 from fun z => z rfl)) (And.intro (o11) (And.intro (Nat.le_refl _) (And.intro ((fun z => z (cb_n0.mpr rfl))) (And.intro ((show ¬ nI m = 0 from nI_ne0 (by omega) (by omega))) (And.intro ((show ¬ ¬ cb_n (!false && false) = nI 0 from fun z => z rfl)) (And.intro (o12) (And.intro (Nat.le_refl _) (And.intro (rfl) (cw_less [0, 4, 5, 6, 7, 8, 9, 10] rfl K2)))))))))))))
  have t0 := tail rfl
  by_cases d : cb_tc (cs_cl S k) 10 < 9
  · have o1 := o (cb_tc (cs_cl S k) 10 + 1) (by omega)
    have e1 : cc_cla S (cs_cl S k) (cb_tc (cs_cl S k) 10 + 1) = -nI 6 := by
      unfold cc_cla
      rw [if_neg (by omega), if_neg (by omega), if_neg (by omega), if_neg (by omega), cb_sio_skip _ (by omega) 9 10 rfl (by omega) (Nat.lt_succ_self _)]
      rfl
    rw [e1, ← nI_add (cb_tc (cs_cl S k) 10) 1] at o1
    exact cw_run cw_kL_same cw_z 30 [false, false, false] [] [(_, _), (_, _), (_, _), (_, _), (_, _)] (And.intro (ai) (And.intro (Nat.le_refl _) (And.intro (ao) (And.intro (Nat.le_refl _) (And.intro (ab) (And.intro (Nat.le_refl _) (And.intro (o0) (And.intro (Nat.le_refl _) (And.intro ((fun z => z rfl)) (And.intro ((show ¬ nI 9 ≤ nI (cb_tc (cs_cl S k) 10) from nI_ge d (by omega))) (And.intro (o1) (And.intro (Nat.le_refl _) (And.intro ((show ¬ ¬ -nI 6 = -nI 6 from fun z => z rfl)) (t0))))))))))))))
  · exact cw_run cw_kL_same cw_z 22 [false, true] [] [(_, _), (_, _), (_, _), (_, _)] (And.intro (ai) (And.intro (Nat.le_refl _) (And.intro (ao) (And.intro (Nat.le_refl _) (And.intro (ab) (And.intro (Nat.le_refl _) (And.intro (o0) (And.intro (Nat.le_refl _) (And.intro ((fun z => z rfl)) (And.intro ((show nI 9 ≤ nI (cb_tc (cs_cl S k) 10) from nI_le (by omega) (by omega))) (t0)))))))))))
theorem ps_clauses (h : cr_I S) (hr : pr (cs_sp S) S q on ze le re tr) (K : cw_W l mm_L_same 0 0 h0 (some (.int (nI 1))) h1 0 0 435 pl_N [] (px_h q on ze le re tr (cc_h u S T H G g pl L))) : ∀ n k, k + n = cs_t S + cs_n S → cw_W l mm_L_same 0 0 h0 (some (.int (nI 1))) h1 0 0 213 ((7, .int (nI k)) :: pl_N) [] (px_h q on ze le re tr (cc_h u S T H G g pl L)) := by
  have hB := h.1.1
  have n60 : cs_t S + cs_n S ≤ 60 := by have := hB.2.1.2; have := hB.2.2.1.2; omega
  have e3 : q 3 + q 4 = nI (cs_t S + cs_n S) := by rw [hr.1.2.2.2.1, hr.1.2.2.2.2.1, hB.2.1.1, hB.2.2.1.1, nI_add]
  intro n
  induction n with
  | zero =>
    intro k hk
    obtain rfl : k = cs_t S + cs_n S := by omega
    exact cw_run cw_kL_same cw_z 9 [true] [_, _] [] (And.intro (rfl) (And.intro (Nat.le_of_ble_eq_true rfl) (And.intro (rfl) (And.intro (Nat.le_of_ble_eq_true rfl) (And.intro ((show q 3 + q 4 ≤ nI (cs_t S + cs_n S) by rw [e3]; exact Int32.le_refl _)) (cw_less [1, 2, 3, 4, 5, 6, 7] rfl K))))))
  | succ n ih =>
    intro k hk
    have w := ps_signs h hr (show k < cs_t S + cs_n S by omega) (ps_clause h hr (by omega) (ih (k + 1) (by omega))) 9 1 (by omega) (Nat.le_refl _)
    exact cw_run cw_kL_same cw_z 13 [false] [_, _] [] (And.intro (rfl) (And.intro (Nat.le_of_ble_eq_true rfl) (And.intro (rfl) (And.intro (Nat.le_of_ble_eq_true rfl) (And.intro ((show ¬ q 3 + q 4 ≤ nI k by rw [e3]; exact nI_ge (by omega) (by omega))) (w))))))

set_option maxRecDepth 10000 in
theorem pl_same (h : cr_I S) (hr : pr (cs_sp S) S q on ze le re tr) : cw_M l mm_L_same 0 0 [.ref 6, .ref 0, .ref 1, .ref 2, .ref 3, .ref 4, .ref 5] (px_h q on ze le re tr (cc_h u S T H G g pl L)) (some (.int (nI 1))) (px_h q on ze le re tr (cc_h u S T H G g pl L)) := by
  have hB := h.1.1
  refine cw_enter cw_KL_same (by decide) (Nat.le_of_ble_eq_true rfl) ?_
  refine cw_run cw_kL_same cw_z 2 [] [] [] (ps_things h hr ?_ (cs_k S) 1 (by omega) (Nat.le_refl _))
  refine cw_run cw_kL_same cw_z 2 [] [] [] (ps_trail h hr ?_ (cs_g S) 0 (by omega))
  refine cw_run cw_kL_same cw_z 2 [] [] [] (ps_clauses h hr ?_ (cs_t S + cs_n S) 0 (by omega))
  obtain ⟨r0, r1, r2, r3, r4, r5, r6, r7, r8, r9⟩ := hr.1
  have o := fun j (hj : j ≤ 11) => px_cls (q := q) (on := on) (ze := ze) (le := le) (re := re) (tr := tr) (cc_count (l := l) (u := u) (N := S) (T := T) (H := H) (G := G) (f := g) (pl := pl) (L := L) hB j hj) rfl
  have nn : ∀ {a b : Int32}, a = b → ¬ ¬ b = a := fun e z => z e.symm
  exact cw_run cw_kL_same cw_z 72 [false, false, false, false, false, false, false, false, false, false] [_, _, _, _, _, _, _, _, _, _] [(_, _), (_, _), (_, _), (_, _), (_, _), (_, _), (_, _), (_, _), (_, _), (_, _)] (And.intro (o 0 (by omega)) (And.intro (Nat.le_refl _) (And.intro (rfl) (And.intro (Nat.le_of_ble_eq_true rfl) (And.intro (nn r3) (And.intro (o 1 (by omega)) (And.intro (Nat.le_refl _) (And.intro (rfl) (And.intro (Nat.le_of_ble_eq_true rfl) (And.intro (nn r4) (And.intro (o 2 (by omega)) (And.intro (Nat.le_refl _) (And.intro (rfl) (And.intro (Nat.le_of_ble_eq_true rfl) (And.intro (nn r5) (And.intro (o 3 (by omega)) (And.intro (Nat.le_refl _) (And.intro (rfl) (And.intro (Nat.le_of_ble_eq_true rfl) (And.intro (nn r6) (And.intro (o 4 (by omega)) (And.intro (Nat.le_refl _) (And.intro (rfl) (And.intro (Nat.le_of_ble_eq_true rfl) (And.intro (nn r7) (And.intro (o 5 (by omega)) (And.intro (Nat.le_refl _) (And.intro (rfl) (And.intro (Nat.le_of_ble_eq_true rfl) (And.intro (nn r8) (And.intro (o 6 (by omega)) (And.intro (Nat.le_refl _) (And.intro (rfl) (And.intro (Nat.le_of_ble_eq_true rfl) (And.intro (nn r9) (And.intro (o 7 (by omega)) (And.intro (Nat.le_refl _) (And.intro (rfl) (And.intro (Nat.le_of_ble_eq_true rfl) (And.intro (nn r0) (And.intro (o 8 (by omega)) (And.intro (Nat.le_refl _) (And.intro (rfl) (And.intro (Nat.le_of_ble_eq_true rfl) (And.intro (nn r1) (And.intro (o 9 (by omega)) (And.intro (Nat.le_refl _) (And.intro (rfl) (And.intro (Nat.le_of_ble_eq_true rfl) (And.intro (nn r2) (cw_retz cw_kL_same cw_z rfl rfl (Or.inr rfl))))))))))))))))))))))))))))))))))))))))))))))))))))
end PS2
