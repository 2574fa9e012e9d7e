/-! p24: the law learns: room, the clause kept, back at a restart -/
def pl_lo (c : Int32) : Int32 := c &&& nI 1023
def pl_hi (c : Int32) : Int32 := cb_us c 10
theorem pl_1023 : ∀ i, i < 32 → bt (nI 1023) i = decide (i < 10) := by decide +kernel
theorem pr_c_lh (c : Int32) : pr_c c (pl_lo c) (pl_hi c) := by
  intro i hi
  refine ⟨?_, ?_⟩
  · unfold pl_lo
    rw [b_and, pl_1023 i hi, Bool.and_eq_true, decide_eq_true_eq, and_comm]
  · unfold pl_hi cb_us
    rw [b_ushr 10 (by omega), Nat.add_comm]
theorem pr_c_uni {c o z o2 z2 : Int32} (h1 : pr_c c o z) (h2 : pr_c c o2 z2) : o = o2 ∧ z = z2 := by
  refine ⟨b_ext (fun i hi => ?_), b_ext (fun i hi => ?_)⟩
  · have a := (h1 i hi).1
    have b := (h2 i hi).1
    cases u : bt o i <;> cases v : bt o2 i <;> simp_all
  · have a := (h1 i hi).2
    have b := (h2 i hi).2
    cases u : bt z i <;> cases v : bt z2 i <;> simp_all
section PL3
variable {l : Launch} {y : Int32} {S : cs_S} {f q on ze le re tr : Nat → Int32} {h0 h1 : cw_H} {c0 up down : Int32}
/-- is a clause a reason? -/
theorem pl_used (h : crp y S f) (hr : pr y S q on ze le re tr) {go al : Int32} (K : cw_W l mm_L_learn 0 0 h0 none h1 0 0 333 ((14, .int (nI (cs_g S))) :: (13, .int (cb_n (cs_isr S go (cs_g S) 0))) :: (12, .int go) :: (11, .int al) :: (8, .int down) :: (7, .int up) :: pl_L c0) [] (pl_h q on ze le re tr)) : ∀ n i u, i + n = cs_g S → (u || cs_isr S go n i) = cs_isr S go (cs_g S) 0 → cw_W l mm_L_learn 0 0 h0 none h1 0 0 293 ((14, .int (nI i)) :: (13, .int (cb_n u)) :: (12, .int go) :: (11, .int al) :: (8, .int down) :: (7, .int up) :: pl_L c0) [] (pl_h q on ze le re tr) := by
  have g9 := cr_g9 h.1
  have g7 := pr_g7 h.1 hr
  intro n
  induction n with
  | zero =>
    intro i u hi e
    obtain rfl : i = cs_g S := by omega
    have e : u = cs_isr S go (cs_g S) 0 := by rw [← e]; exact (Bool.or_false u).symm
    rw [← e] at K
    exact cw_run cw_kL_learn cw_z 5 [true] [_] [] (And.intro (rfl) (And.intro (Nat.le_of_ble_eq_true rfl) (And.intro ((show q 7 ≤ nI (cs_g S) by rw [g7]; exact Int32.le_refl _)) (K))))
  | succ n ih =>
    intro i u hi e
    have hig : i < cs_g S := by omega
    obtain ⟨t1, t2, t3⟩ := hr.2.2.2 i hig
    have m0 : ¬ q 7 ≤ nI i := by rw [g7]; exact nI_ge hig (by omega)
    have i10 : i < 10 := by omega
    have x10 : cs_s S i % 10 < 10 := by omega
    rw [show cs_isr S go (n + 1) i = if cs_rs S i = go then true else cs_isr S go n (i + 1) from rfl] at e
    cases u with
    | true =>
      have ih1 := ih (i + 1) true (by omega) (by rw [Bool.true_or] at e ⊢; exact e)
      rw [← nI_add i 1] at ih1
      exact cw_run cw_kL_learn cw_z 12 [false, true] [_] [] (And.intro (rfl) (And.intro (Nat.le_of_ble_eq_true rfl) (And.intro (m0) (And.intro ((show ¬ cb_n true = 0 from cb_nt.mpr rfl)) (ih1)))))
    | false =>
      by_cases d : cs_rs S i = go
      · have ih1 := ih (i + 1) true (by omega) (by rw [if_pos d] at e; rw [Bool.true_or]; exact e)
        rw [← nI_add i 1] at ih1
        exact cw_run cw_kL_learn cw_z 19 [false, false, false] [_, _, _] [] (And.intro (rfl) (And.intro (Nat.le_of_ble_eq_true rfl) (And.intro (m0) (And.intro ((show ¬ ¬ cb_n false = 0 from fun z => z (cb_n0.mpr rfl))) (And.intro (rfl) (And.intro (i10) (And.intro (t1) (And.intro (x10) (And.intro ((show ¬ ¬ re (cs_s S i % 10) = go from fun z => z (t3.trans d))) (ih1))))))))))
      · have ih1 := ih (i + 1) false (by omega) (by rw [if_neg d] at e; exact e)
        rw [← nI_add i 1] at ih1
        exact cw_run cw_kL_learn cw_z 18 [false, false, true] [_, _, _] [] (And.intro (rfl) (And.intro (Nat.le_of_ble_eq_true rfl) (And.intro (m0) (And.intro ((show ¬ ¬ cb_n false = 0 from fun z => z (cb_n0.mpr rfl))) (And.intro (rfl) (And.intro (i10) (And.intro (t1) (And.intro (x10) (And.intro ((show ¬ re (cs_s S i % 10) = go from fun z => d (t3.symm.trans z))) (ih1))))))))))
/-- the earliest learned clause without use -/
theorem pl_gone (h : crp y S f) (hr : pr y S q on ze le re tr) {al : Int32} {j : Nat} (K : cw_W l mm_L_learn 0 0 h0 none h1 0 0 351 ((13, .int (nI 0)) :: (12, .int (nI j)) :: (11, .int al) :: (8, .int down) :: (7, .int up) :: pl_L c0) [] (pl_h q on ze le re tr)) : ∀ m k, cs_fgk S m k = some j → cw_W l mm_L_learn 0 0 h0 none h1 0 0 282 ((13, .int (nI 1)) :: (12, .int (nI k)) :: (11, .int al) :: (8, .int down) :: (7, .int up) :: pl_L c0) [] (pl_h q on ze le re tr) := by
  intro m
  induction m with
  | zero => intro k e; cases e
  | succ m ih =>
    intro k e
    unfold cs_fgk at e
    refine cw_run cw_kL_learn cw_z 6 [false] [] [] (And.intro ((show ¬ nI 1 = 0 by decide)) (pl_used h hr (go := nI k) ?_ (cs_g S) 0 false (by omega) rfl))
    cases b : cs_isr S (nI k) (cs_g S) 0 with
    | true =>
      rw [b, if_pos rfl] at e
      have ih1 := ih (k + 1) e
      rw [← nI_add k 1] at ih1
      exact cw_run cw_kL_learn cw_z 8 [false] [] [] (And.intro ((show ¬ cb_n true = 0 from cb_nt.mpr rfl)) (cw_less [2, 0, 3, 4, 5, 6, 7, 8, 9, 10, 11, 12] rfl ih1))
    | false =>
      rw [b, if_neg (by decide)] at e
      have e0 : nI k + nI 0 = nI j := by rw [nI_add, Nat.add_zero, Option.some.inj e]
      rw [← e0] at K
      exact cw_run cw_kL_learn cw_z 9 [true, true] [] [] (And.intro (cb_n0.mpr rfl) (And.intro (cb_n0.mpr rfl) (cw_less [2, 0, 3, 4, 5, 6, 7, 8, 9, 10, 11, 12] rfl K)))
/-- the gap closes -/
theorem pl_shift {al j : Nat} (h60 : al ≤ 60) (K : cw_W l mm_L_learn 0 0 h0 none h1 0 0 390 ((13, .int (nI (al - 1))) :: (12, .int (nI j)) :: (11, .int (nI al)) :: (8, .int down) :: (7, .int up) :: pl_L c0) [] (pl_h q (cs_rm on j (al - 1)) (cs_rm ze j (al - 1)) le re tr)) : ∀ n i, i + 1 + n = al → j ≤ i → cw_W l mm_L_learn 0 0 h0 none h1 0 0 355 ((13, .int (nI i)) :: (12, .int (nI j)) :: (11, .int (nI al)) :: (8, .int down) :: (7, .int up) :: pl_L c0) [] (pl_h q (cs_rm on j i) (cs_rm ze j i) le re tr) := by
  intro n
  induction n with
  | zero =>
    intro i hi hj
    obtain rfl : i = al - 1 := by omega
    exact cw_run cw_kL_learn cw_z 5 [true] [] [] (And.intro ((show nI al ≤ nI (al - 1) + nI 1 by rw [nI_add]; exact nI_le (by omega) (by omega))) (K))
  | succ n ih =>
    intro i hi hj
    have ih1 := ih (i + 1) (by omega) (by omega)
    rw [← nI_add i 1, ← cs_rm_s on hj, ← cs_rm_s ze hj] at ih1
    exact cw_run cw_kL_learn cw_z 23 [false] [_, _, _, _] [] (And.intro ((show ¬ nI al ≤ nI i + nI 1 by rw [nI_add]; exact nI_ge (by omega) (by omega))) (And.intro (nI_add i 1) (And.intro ((show i + 1 < 61 by omega)) (And.intro (rfl) (And.intro ((show i < 61 by omega)) (And.intro (nI_add i 1) (And.intro ((show i + 1 < 61 by omega)) (And.intro (rfl) (And.intro ((show i < 61 by omega)) (ih1))))))))))
/-- reasons behind the gap -/
def pl_low1 (S : cs_S) (j k : Nat) : Int32 := if nI j < cs_rs S k then cs_rs S k - nI 1 else cs_rs S k
theorem pl_lower (h : cr_I S) (h7 : q 7 = nI (cs_g S)) (ht : ∀ k, k < cs_g S → tr k = nI (cs_s S k % 10)) {al : Int32} {j : Nat} : ∀ n i re, i + n = cs_g S → (∀ k, k < i → re (cs_s S k % 10) = pl_low1 S j k) → (∀ k, i ≤ k → k < cs_g S → re (cs_s S k % 10) = cs_rs S k) → ∃ re', (∀ k, k < cs_g S → re' (cs_s S k % 10) = pl_low1 S j k) ∧ (∀ {h0 h1 : cw_H}, cw_W l mm_L_learn 0 0 h0 none h1 0 0 433 ((13, .int (nI (cs_g S))) :: (12, .int (nI j)) :: (11, .int al) :: (8, .int down) :: (7, .int up) :: pl_L c0) [] (pl_h q on ze le re' tr) → cw_W l mm_L_learn 0 0 h0 none h1 0 0 393 ((13, .int (nI i)) :: (12, .int (nI j)) :: (11, .int al) :: (8, .int down) :: (7, .int up) :: pl_L c0) [] (pl_h q on ze le re tr)) := by
  have g9 := cr_g9 h
  intro n
  induction n with
  | zero =>
    intro i re hi h1 h2
    obtain rfl : i = cs_g S := by omega
    refine ⟨re, h1, fun K => ?_⟩
    exact cw_run cw_kL_learn cw_z 5 [true] [_] [] (And.intro (rfl) (And.intro (Nat.le_of_ble_eq_true rfl) (And.intro ((show q 7 ≤ nI (cs_g S) by rw [h7]; exact Int32.le_refl _)) (K))))
  | succ n ih =>
    intro i re hi h1 h2
    have hig : i < cs_g S := by omega
    have t1 := ht i hig
    have t3 := h2 i (Nat.le_refl _) hig
    have m0 : ¬ q 7 ≤ nI i := by rw [h7]; exact nI_ge hig (by omega)
    have i10 : i < 10 := by omega
    have x10 : cs_s S i % 10 < 10 := by omega
    by_cases d : nI j < cs_rs S i
    · obtain ⟨re', a1, a2⟩ := ih (i + 1) (upd re (cs_s S i % 10) (re (cs_s S i % 10) - nI 1)) (by omega) (fun k hk => by
        by_cases e : k = i
        · subst e
          rw [pk_us, t3]; unfold pl_low1; rw [if_pos d]
        · rw [pk_un (fun z => e (cr_uni h (by omega) hig z))]; exact h1 k (by omega)) (fun k hk hk2 => by
        rw [pk_un (fun z => by have := cr_uni h hk2 hig z; omega)]; exact h2 k (by omega) hk2)
      refine ⟨re', a1, fun K => ?_⟩
      have w := a2 K
      rw [← nI_add i 1] at w
      exact cw_run cw_kL_learn cw_z 23 [false, false] [_, _, _, _, _, _] [] (And.intro (rfl) (And.intro (Nat.le_of_ble_eq_true rfl) (And.intro (m0) (And.intro (rfl) (And.intro (i10) (And.intro (t1) (And.intro (x10) (And.intro ((show ¬ re (cs_s S i % 10) ≤ nI j by rw [t3]; exact Int32.not_le.mpr d)) (And.intro (rfl) (And.intro (i10) (And.intro (t1) (And.intro (x10) (And.intro (t1) (And.intro (x10) (w)))))))))))))))
    · obtain ⟨re', a1, a2⟩ := ih (i + 1) re (by omega) (fun k hk => by
        by_cases e : k = i
        · subst e
          rw [t3]; unfold pl_low1; rw [if_neg d]
        · exact h1 k (by omega)) (fun k hk hk2 => h2 k (by omega) hk2)
      refine ⟨re', a1, fun K => ?_⟩
      have w := a2 K
      rw [← nI_add i 1] at w
      exact cw_run cw_kL_learn cw_z 14 [false, true] [_, _, _] [] (And.intro (rfl) (And.intro (Nat.le_of_ble_eq_true rfl) (And.intro (m0) (And.intro (rfl) (And.intro (i10) (And.intro (t1) (And.intro (x10) (And.intro ((show re (cs_s S i % 10) ≤ nI j by rw [t3]; exact Int32.not_lt.mp d)) (w)))))))))
theorem pr_drop (h : cr_I S) (hr : pr y S q on ze le re tr) (hn : cs_n S = 40) {j : Nat} (j1 : cs_t S ≤ j) (j2 : j < cs_t S + 40) {re' : Nat → Int32} (hre : ∀ k, k < cs_g S → re' (cs_s S k % 10) = pl_low1 S j k) : pr y (cs_drop S j) (upd q 4 (q 4 - nI 1)) (cs_rm on j (cs_t S + 40 - 1)) (cs_rm ze j (cs_t S + 40 - 1)) le re' tr := by
  have hB := h.1.1
  have h20 := hB.2.1.2
  obtain ⟨hB2, hn2⟩ := cs_Bd_drop hB (show 1 ≤ cs_n S by omega) j
  have hn3 : cs_n (cs_drop S j) = 39 := by omega
  obtain ⟨⟨r0, r1, r2, r3, r4, r5, r6, r7, r8, r9⟩, rv, rk, rt⟩ := hr
  have ft : cs_t (cs_drop S j) = cs_t S := rfl
  refine ⟨⟨r0, r1, r2, r3, ?_, r5, r6, r7, r8, r9⟩, rv, fun k hk => ?_, fun k hk => ?_⟩
  · rw [pk_us, r4]; rfl
  · rw [ft, hn3] at hk
    show pr_c (cs_rm (cs_cl S) j 59 k) (cs_rm on j (cs_t S + 40 - 1) k) (cs_rm ze j (cs_t S + 40 - 1) k)
    unfold cs_rm
    by_cases c : j ≤ k
    · rw [if_pos ⟨c, by omega⟩, if_pos ⟨c, by omega⟩, if_pos ⟨c, by omega⟩]; exact rk (k + 1) (by omega)
    · rw [if_neg (fun z => c z.1), if_neg (fun z => c z.1), if_neg (fun z => c z.1)]; exact rk k (by omega)
  · have hk2 : k < cs_g S := hk
    obtain ⟨t1, t2, t3⟩ := rt k hk2
    refine ⟨t1, t2, ?_⟩
    refine (hre k hk2).trans ?_
    show pl_low1 S j k = cs_lr S (nI j) (cs_g S) k
    unfold pl_low1 cs_lr
    by_cases c : nI j < cs_rs S k
    · rw [if_pos c, if_pos ⟨hk2, c⟩]
    · rw [if_neg c, if_neg (fun z => c z.2)]
/-- room for a learned clause -/
theorem pl_room (h : crp y S f) (hr : pr y S q on ze le re tr) {x10 : Int32} : ∃ f2 q2 on2 ze2 re2, crp y (cs_mr S) f2 ∧ pr y (cs_mr S) q2 on2 ze2 le re2 tr ∧ cs_n (cs_mr S) ≤ 39 ∧ cs_t (cs_mr S) = cs_t S ∧ cs_k (cs_mr S) = cs_k S ∧ (∀ {h0 h1 : cw_H}, cw_W l mm_L_learn 0 0 h0 none h1 0 0 443 ((11, .int (nI (cs_t S + cs_n (cs_mr S)))) :: (8, .int down) :: (7, .int up) :: pl_L c0) [] (pl_h q2 on2 ze2 le re2 tr) → cw_W l mm_L_learn 0 0 h0 none h1 0 0 257 ((10, .int x10) :: (8, .int down) :: (7, .int up) :: pl_L c0) [] (pl_h q on ze le re tr)) := by
  have hB := h.1.1.1
  have e3 : q 3 + q 4 = nI (cs_t S + cs_n S) := by rw [hr.1.2.2.2.1, hr.1.2.2.2.2.1, hB.2.1.1, hB.2.2.1.1, nI_add]
  have e4 : q 4 = nI (cs_n S) := by rw [hr.1.2.2.2.2.1, hB.2.2.1.1]
  have e3' : q 3 = nI (cs_t S) := by rw [hr.1.2.2.2.1, hB.2.1.1]
  have t20 := hB.2.1.2
  have n40 := hB.2.2.1.2
  by_cases c40 : cs_n S = 40
  · obtain ⟨j, j1, j2, j3, j4, j5⟩ := cr_room h c40
    obtain ⟨d1, d2⟩ := cr_drop h c40 j1 j2 j5
    have emr : cs_mr S = cs_drop S j := by unfold cs_mr; rw [if_neg (by omega), j3]
    rw [emr]
    have efg : cs_fgk S 40 (cs_t S) = some j := by
      have z := j3
      unfold cs_fgt at z
      rw [c40] at z
      cases w : cs_fgk S 40 (cs_t S) with
      | none =>
        rw [w] at z
        have hn := congrArg cs_n z
        rw [d2, c40] at hn
        omega
      | some k =>
        obtain ⟨k1, hk1, hk2, hk3, -⟩ : ∃ k1, cs_t S ≤ k1 ∧ k1 < cs_t S + 40 ∧ cs_fgk S 40 (cs_t S) = some k1 ∧ ∀ a, cm_mk f (cs_t S) (cs_t S - cs_t S + 40) a = cm_mk f (cs_t S) (cs_t S - cs_t S) (nI k1) := by
          rcases cr_fgk h (cs_t S) 40 (cs_t S) (by omega) (Nat.le_refl _) with ⟨w2, -⟩ | ⟨k1, a1, a2, a3, a4, a5⟩
          · rw [w] at w2; cases w2
          · exact ⟨k1, a1, a2, a3, a5⟩
        rcases cr_fgk h (cs_t S) 40 (cs_t S) (by omega) (Nat.le_refl _) with ⟨w2, -⟩ | ⟨k2, a1, a2, a3, a4, a5⟩
        · rw [w] at w2; cases w2
        · have z2 := a5 (-nI 6)
          rw [Nat.sub_self, Nat.zero_add] at z2
          have z3 : nI k2 = nI j := by rw [← j4]; exact z2.symm
          have z4 := (nI_eq (by omega) (by omega)).mp z3
          rw [w] at a3
          cases a3
          rw [z4]
    obtain ⟨re', a1, a2⟩ := pl_lower (l := l) (on := cs_rm on j (cs_t S + 40 - 1)) (ze := cs_rm ze j (cs_t S + 40 - 1)) (le := le) (c0 := c0) (up := up) (down := down) (al := nI (cs_t S + 40)) (j := j) h.1 (pr_g7 h.1 hr) (fun k hk => (hr.2.2.2 k hk).1) (cs_g S) 0 re (by omega) (fun k hk => absurd hk (Nat.not_lt_zero k)) (fun k _ hk => (hr.2.2.2 k hk).2.2)
    refine ⟨_, _, _, _, _, d1, pr_drop h.1 hr c40 j1 j2 a1, by omega, rfl, rfl, fun K => ?_⟩
    rw [d2, show cs_t S + 39 = cs_t S + 40 - 1 by omega, ← pk_sub (show 1 ≤ cs_t S + 40 by omega), ← cb_m] at K
    rw [c40] at e3 e4
    have K2 := a2 (h0 := _) (h1 := _) (cw_run cw_kL_learn cw_z 8 [] [_, _] [] (And.intro (rfl) (And.intro (Nat.le_of_ble_eq_true rfl) (And.intro (rfl) (And.intro (Nat.le_of_ble_eq_true rfl) (cw_less [0, 3, 4, 5, 6, 7, 8, 9, 10, 11] rfl K))))))
    have K3 := pl_shift (l := l) (q := q) (on := on) (ze := ze) (le := le) (re := re) (tr := tr) (up := up) (down := down) (c0 := c0) (al := cs_t S + 40) (j := j) (by omega) (cw_run cw_kL_learn cw_z 2 [] [] [] K2) (cs_t S + 40 - 1 - j) j (by omega) (Nat.le_refl _)
    rw [cs_rm_k, cs_rm_k] at K3
    have K4 := pl_gone h hr (al := nI (cs_t S + 40)) (up := up) (down := down) (c0 := c0) (j := j) (cw_run cw_kL_learn cw_z 2 [] [] [] K3) 40 (cs_t S) efg
    rw [← e3, ← e3'] at K4
    exact cw_run cw_kL_learn cw_z 19 [false] [_, _, _, _] [] (And.intro (rfl) (And.intro (Nat.le_of_ble_eq_true rfl) (And.intro (rfl) (And.intro (Nat.le_of_ble_eq_true rfl) (And.intro (rfl) (And.intro (Nat.le_of_ble_eq_true rfl) (And.intro ((show ¬ ¬ q 4 = nI 40 from fun z => z e4)) (And.intro (rfl) (And.intro (Nat.le_of_ble_eq_true rfl) (cw_less [0, 1, 2, 4, 5, 6, 7, 8, 9, 10, 11, 12] rfl K4))))))))))
  · have emr : cs_mr S = S := by unfold cs_mr; rw [if_pos (by omega)]
    rw [emr]
    refine ⟨f, q, on, ze, re, h, hr, by omega, rfl, rfl, fun K => ?_⟩
    rw [← e3] at K
    exact cw_run cw_kL_learn cw_z 13 [true] [_, _, _] [] (And.intro (rfl) (And.intro (Nat.le_of_ble_eq_true rfl) (And.intro (rfl) (And.intro (Nat.le_of_ble_eq_true rfl) (And.intro (rfl) (And.intro (Nat.le_of_ble_eq_true rfl) (And.intro ((show ¬ q 4 = nI 40 from fun z => c40 ((nI_eq (by omega) (by omega)).mp (e4.symm.trans z)))) (cw_less [0, 2, 3, 4, 5, 6, 7, 8, 9, 10] rfl K))))))))
/-- the clause kept -/
theorem pr_push (h : cr_I S) (hr : pr y S q on ze le re tr) (hn : cs_n S ≤ 39) {c up down : Int32} (hp : pr_c c up down) : pr y (cs_wco (cs_push S c) (cs_co S + nI 1)) (upd (upd q 4 (q 4 + nI 1)) 8 (q 8 + nI 1)) (upd on (cs_t S + cs_n S) up) (upd ze (cs_t S + cs_n S) down) le re tr := by
  have hB := h.1.1
  have eg : cs_le S + nI 1 = nI (cs_n S + 1) := by rw [hB.2.2.1.1, nI_add]
  have fn : cs_n (cs_wco (cs_push S c) (cs_co S + nI 1)) = cs_n S + 1 := cs_n_nI eg (by omega)
  obtain ⟨⟨r0, r1, r2, r3, r4, r5, r6, r7, r8, r9⟩, rv, rk, rt⟩ := hr
  refine ⟨⟨r0, r1, r2, r3, ?_, r5, r6, r7, ?_, r9⟩, rv, fun k hk => ?_, rt⟩
  · show q 4 + nI 1 = cs_le S + nI 1
    rw [r4]
  · show q 8 + nI 1 = cs_co S + nI 1
    rw [r8]
  · rw [fn] at hk
    have hk : k < cs_t S + (cs_n S + 1) := hk
    show pr_c (upd (cs_cl S) (cs_t S + cs_n S) c k) _ _
    by_cases e : k = cs_t S + cs_n S
    · subst e
      rw [pk_us, pk_us, pk_us]; exact hp
    · rw [pk_un e, pk_un e, pk_un e]; exact rk k (by omega)
set_option maxRecDepth 10000 in
theorem pl_keep (h : crp y S f) (hr : pr y S q on ze le re tr) (hn : cs_n S ≤ 39) {c : Int32} (hc : cr_c (cs_k S) c) (hp : pr_c c up down) : ∃ f' q' on' ze' re', crp y (cs_mf (cs_push S c)) f' ∧ pr y (cs_mf (cs_push S c)) q' on' ze' le re' tr ∧ ∀ {h0 : cw_H}, cw_W l mm_L_learn 0 0 h0 none (pl_h q' on' ze' le re' tr) 0 0 443 ((11, .int (nI (cs_t S + cs_n S))) :: (8, .int down) :: (7, .int up) :: pl_L c0) [] (pl_h q on ze le re tr) := by
  have hB := h.1.1.1
  have t20 := hB.2.1.2
  have hr3 := pr_push h.1 hr hn hp
  obtain ⟨h3, en3⟩ := cr_push h hn hc
  obtain ⟨r, r1, r2, r3⟩ := h.1.1.2.2.1
  have emf : cs_mf (cs_push S c) = if (cs_co S + nI 1) - (cs_co S + nI 1) / cs_re S * cs_re S = 0 then cs_gb (cs_wco (cs_push S c) (cs_co S + nI 1)) (nI 0) else cs_wco (cs_push S c) (cs_co S + nI 1) := by
    have : ¬ cs_re (cs_push S c) ≤ 0 := by
      show ¬ cs_re S ≤ 0
      rw [r3]; exact nI_nle (by omega) (by omega)
    unfold cs_mf
    rw [if_neg this]
    rfl
  rw [emf]
  have q8 : q 8 = cs_co S := hr.1.2.2.2.2.2.2.2.2.1
  have q1 : q 1 = cs_re S := hr.1.2.1
  have hq1 : ¬ q 1 = 0 := by rw [q1, r3]; exact nI_ne0 (by omega) (by omega)
  have k61 : cs_t S + cs_n S < 61 := by omega
  by_cases d : (cs_co S + nI 1) - (cs_co S + nI 1) / cs_re S * cs_re S = 0
  · rw [if_pos d]
    have eg : cs_g (cs_wco (cs_push S c) (cs_co S + nI 1)) = cs_g S := rfl
    obtain ⟨g1, g2⟩ := cr_gb h3 (m := 0) (Nat.zero_le _)
    have hl : cs_pl (cs_gb (cs_wco (cs_push S c) (cs_co S + nI 1)) (nI 0)) (cs_g (cs_gb (cs_wco (cs_push S c) (cs_co S + nI 1)) (nI 0))) = nI 0 := (g1.2.1.2.2.2.2.2.2.1).symm
    obtain ⟨q', re', F, w⟩ := pl_back (l := l) (q := upd (upd q 4 (q 4 + nI 1)) 8 (q 8 + nI 1)) (on := upd on (cs_t S + cs_n S) up) (ze := upd ze (cs_t S + cs_n S) down) (le := le) (re := re) (tr := tr) (L := nI 0) (x := fun k => cs_s S k % 10) (g := cs_g S) (cr_g9 h.1) (fun k hk => pr_x h.1 hr k hk) (show q 7 = nI (cs_g S) from pr_g7 h.1 hr)
    refine ⟨_, q', _, _, re', g1, pr_gb h3.1 hr3 (Nat.zero_le _) hl F, ?_⟩
    intro h0
    exact cw_run cw_kL_learn cw_z 36 [false] [_, _, _, _, _, _, _, _] [(_, _)] (And.intro (rfl) (And.intro (k61) (And.intro (rfl) (And.intro (k61) (And.intro (rfl) (And.intro (Nat.le_of_ble_eq_true rfl) (And.intro (rfl) (And.intro (Nat.le_of_ble_eq_true rfl) (And.intro (rfl) (And.intro (Nat.le_of_ble_eq_true rfl) (And.intro (rfl) (And.intro (Nat.le_of_ble_eq_true rfl) (And.intro (rfl) (And.intro (Nat.le_of_ble_eq_true rfl) (And.intro (rfl) (And.intro (Nat.le_of_ble_eq_true rfl) (And.intro (hq1) (And.intro ((show ¬ ¬ (q 8 + nI 1) - (q 8 + nI 1) / q 1 * q 1 = 0 by rw [q8, q1]; exact fun z => z d)) (And.intro (w) (And.intro (Nat.le_refl _) (cw_retv cw_kL_learn cw_z rfl rfl)))))))))))))))))))))
  · rw [if_neg d]
    refine ⟨_, _, _, _, _, h3, hr3, ?_⟩
    intro h0
    exact cw_run cw_kL_learn cw_z 30 [true] [_, _, _, _, _, _, _, _] [] (And.intro (rfl) (And.intro (k61) (And.intro (rfl) (And.intro (k61) (And.intro (rfl) (And.intro (Nat.le_of_ble_eq_true rfl) (And.intro (rfl) (And.intro (Nat.le_of_ble_eq_true rfl) (And.intro (rfl) (And.intro (Nat.le_of_ble_eq_true rfl) (And.intro (rfl) (And.intro (Nat.le_of_ble_eq_true rfl) (And.intro (rfl) (And.intro (Nat.le_of_ble_eq_true rfl) (And.intro (rfl) (And.intro (Nat.le_of_ble_eq_true rfl) (And.intro (hq1) (And.intro ((show ¬ (q 8 + nI 1) - (q 8 + nI 1) / q 1 * q 1 = 0 by rw [q8, q1]; exact d)) (cw_retv cw_kL_learn cw_z rfl rfl)))))))))))))))))))
/-- the law learns what the class learns -/
theorem pl_learn (h : crp y S f) (hr : pr y S q on ze le re tr) {k : Nat} (hk : k < cs_t S + cs_n S) (hp : cr_P S 0 k = true) (h6 : ¬ cs_pl S (cs_g S) = 0) : ∃ f' q' on' ze' re', crp y (cs_meet S (nI k)) f' ∧ pr y (cs_meet S (nI k)) q' on' ze' le re' tr ∧ cw_M l mm_L_learn 0 0 [.int (nI k), .ref 0, .ref 1, .ref 2, .ref 3, .ref 4, .ref 5] (pl_h q on ze le re tr) none (pl_h q' on' ze' le re' tr) := by
  have hk60 := cr_t60 h hk
  have hfl := cr_fl_of h.1 hk hp
  obtain ⟨hln, hc⟩ := cr_coo h (cs_g S) (cs_cl S k) (Nat.le_refl _) hfl (fun j h1 h2 => by omega) 11 (by have := cr_g9 h.1; omega)
  have eout : cs_out S (nI k) = cs_coo S (cr_ps S) (cs_g S) (cs_cl S k) := by unfold cs_out; rw [cs_ca_nI hk60]; rfl
  obtain ⟨e1, m, hm, e2⟩ := cr_lbp h hc (cs_g S) 0 0 (by omega) (Nat.zero_le _)
  have em : cs_meet S (nI k) = cs_mf (cs_learn (cs_gb S (nI m)) (cs_coo S (cr_ps S) (cs_g S) (cs_cl S k))) := by
    unfold cs_meet cs_m2 cs_m1
    rw [if_neg h6, eout, e2]
  obtain ⟨g1, eg1⟩ := cr_gb h hm
  have hcc := cr_fl_c h.1 hc
  rw [em]
  have W18 : ∀ {h0 h1 : cw_H}, (∀ up down, pr_c (cs_coo S (cr_ps S) (cs_g S) (cs_cl S k)) up down → cw_W l mm_L_learn 0 0 h0 none h1 0 0 164 ((8, .int down) :: (7, .int up) :: pl_L (nI k)) [] (pl_h q on ze le re tr)) → cw_W l mm_L_learn 0 0 h0 none h1 0 0 0 (pl_L (nI k)) [] (pl_h q on ze le re tr) := by
    intro h0 h1 K
    have g7 := pr_g7 h.1 hr
    have hpk := hr.2.2.1 k hk
    have w := pl_cnt h hr (kk := nI (cs_g S) - nI 1) (c0 := nI k) (h0 := h0) (h1 := h1) (l := l) hfl hpk (fun d => K _ _ (by
      have : cs_coo S (cr_ps S) (cs_g S) (cs_cl S k) = cs_cl S k := by
        cases cs_g S with
        | zero => rfl
        | succ g => unfold cs_coo; rw [if_pos d]
      rw [this]; exact hpk)) (fun d => pl_out h hr K (cs_g S) (cs_cl S k) _ _ (Nat.le_refl _) rfl hfl (fun j h1 h2 => by omega) d hpk)
    rw [← g7] at w
    exact cw_run cw_kL_learn cw_z 14 [] [_, _, _] [] (And.intro (rfl) (And.intro ((show k < 61 by omega)) (And.intro (rfl) (And.intro ((show k < 61 by omega)) (And.intro (rfl) (And.intro (Nat.le_of_ble_eq_true rfl) (w)))))))
  generalize cs_coo S (cr_ps S) (cs_g S) (cs_cl S k) = c at *
  have hpc := pr_c_lh c
  have hl : cs_pl (cs_gb S (nI m)) (cs_g (cs_gb S (nI m))) = nI m := (g1.2.1.2.2.2.2.2.2.1).symm
  obtain ⟨q', re', F, wb⟩ := pl_back (l := l) (q := q) (on := on) (ze := ze) (le := le) (re := re) (tr := tr) (L := nI m) (x := fun k => cs_s S k % 10) (g := cs_g S) (cr_g9 h.1) (fun k hk => pr_x h.1 hr k hk) (pr_g7 h.1 hr)
  have hr1 := pr_gb h.1 hr hm hl F
  obtain ⟨f2, q2, on2, ze2, re2, h2, hr2, n39, et2, ek2, w2⟩ := pl_room (l := l) (c0 := nI k) (up := pl_lo c) (down := pl_hi c) (x10 := cs_lbp S c (cs_g S) 0 (nI 0)) g1 hr1
  have ek1 : cs_k (cs_gb S (nI m)) = cs_k S := rfl
  obtain ⟨f3, q3, on3, ze3, re3, h3, hr3, w3⟩ := pl_keep (l := l) (c0 := nI k) (up := pl_lo c) (down := pl_hi c) h2 hr2 n39 (c := c) (by rw [ek2, ek1]; exact hcc) hpc
  have el : cs_learn (cs_gb S (nI m)) c = cs_push (cs_mr (cs_gb S (nI m))) c := by
    unfold cs_learn
    rw [if_pos (by omega)]
  rw [el]
  refine ⟨f3, q3, on3, ze3, re3, h3, hr3, cw_enter cw_KL_learn (by decide) (Nat.le_of_ble_eq_true rfl) (W18 (fun up down hp2 => ?_))⟩
  obtain ⟨rfl, rfl⟩ := pr_c_uni hp2 hpc
  rw [et2] at w3
  have w4 := w2 (w3 (h0 := pl_h q on ze le re tr))
  refine cw_run cw_kL_learn cw_z 4 [] [] [] (pl_lev h hr hc hp2 ?_ (cs_g S) 0 (nI 0) (by omega) rfl)
  rw [e2] at w4 ⊢
  exact cw_run cw_kL_learn cw_z 6 [] [] [(_, _)] (And.intro (wb) (And.intro (Nat.le_refl _) (w4)))
end PL3
