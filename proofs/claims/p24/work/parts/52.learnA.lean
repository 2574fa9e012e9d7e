/-! p24: the law learns: the new clause -/
section PL1
variable {y : Int32} {S : cs_S} {f : Nat → Int32}
/-- one clause more on the way out of a conflict -/
theorem cr_coo1 (h : crp y S f) {n : Nat} {c : Int32} (hn : n < cs_g S) (hc : cr_fl S c) (hk : ∀ k, n < k → k < cs_g S → cs_lv S k = cs_pl S (cs_g S) → bt c (cr_op (cs_s S k)) = false) (d : ¬ cb_bc (c &&& cr_ps S) ≤ nI 1) (b : bt c (cr_op (cs_s S n)) = true) :
    ∃ cc c', cc < cs_t S + cs_n S ∧ cs_rs S n = nI cc ∧ c' = (c &&& (cb_set (cb_opp (cs_sg S n)) ^^^ (-nI 1))) ||| (cs_ca S (cs_rs S n) &&& (cb_set (cs_sg S n) ^^^ (-nI 1))) ∧ cr_fl S c' ∧ (∀ k, n ≤ k → k < cs_g S → cs_lv S k = cs_pl S (cs_g S) → bt c' (cr_op (cs_s S k)) = false) ∧ (∀ i, i < 32 → (bt c' i = true ↔ (bt c i = true ∧ i ≠ cr_op (cs_s S n)) ∨ (bt (cs_cl S cc) i = true ∧ i ≠ cs_s S n))) ∧ bt c (cs_s S n) = false ∧ bt (cs_cl S cc) (cr_op (cs_s S n)) = false := by
  have h9 := cr_k9 h.1
  obtain ⟨es, hs, el, -⟩ := h.1.2.2.1.1 n hn
  have hs9 := cr_sg9 h9 hs
  have ho := cr_sg_op h9 hs
  have ho9 := cr_sg9 h9 ho
  have hpi : ¬ cm_pi f c (cs_g S) 0 0 ≤ 1 := fun q => d ((cr_cnt h hc).mpr q)
  have e1 := cm_pi_ct f c (cs_g S) 0 0
  rw [Nat.zero_add, Nat.zero_add, show fb_ct (cm_at f c) 0 = 0 from rfl, Nat.add_zero] at e1
  have htwo : ∃ i j, i < j ∧ j < cs_g S ∧ cm_at f c i = true ∧ cm_at f c j = true := by
    refine Classical.byContradiction fun q => hpi ?_
    rw [e1, fb_two]
    exact fun i j h1 h2 h3 => q ⟨i, j, h1, h2, h3⟩
  obtain ⟨i, j, hij, hj, ai, aj⟩ := htwo
  have qi := (cr_at h hc (show i < cs_g S by omega)).mp ai
  have below : ∀ k, k < cs_g S → cm_at f c k = true → k ≤ n := fun k hk2 a => by
    refine Classical.byContradiction fun q => ?_
    obtain ⟨a1, a2⟩ := (cr_at h hc hk2).mp a
    rw [hk k (by omega) hk2 a1] at a2
    cases a2
  have hjn := below j hj aj
  have hin : i < n := by omega
  have hpl := cr_pl h.1
  have li : cs_l S i = cs_pv S (cs_g S) := by
    have := (h.1.2.2.1.1 i (by omega)).2.2
    have hpv := cr_pv_le h.1
    have g9 := cr_g9 h.1
    exact (nI_eq (by omega) (by omega)).mp (by rw [← this.1, qi.1, hpl])
  have lgn : cs_l S n ≤ cs_pv S (cs_g S) := by
    unfold cs_pv
    rw [if_neg (by omega)]
    exact cr_mono h.1 _ (by omega) (by omega)
  have lin := cr_mono h.1 (j := i) n (by omega) (by omega)
  have hpvn : cs_l S i ≤ cs_pv S n := by
    unfold cs_pv
    rw [if_neg (by omega)]
    exact cr_mono h.1 (n - 1) (by omega) (by omega)
  obtain ⟨-, cc, hcc, er, br, orr⟩ : cs_l S n = cs_pv S n ∧ ∃ c, c < cs_t S + cs_n S ∧ cs_rs S n = nI c ∧ bt (cs_cl S c) (cs_s S n) = true ∧ ∀ i, i < 32 → bt (cs_cl S c) i = true → i = cs_s S n ∨ ∃ j, j < n ∧ cs_s S j = cr_op i := by
    rcases h.1.2.2.2 n (by omega) with z | z
    · exact z
    · omega
  have hB := h.1.1.1
  have hcc60 : cc < 60 := by have := hB.2.1.2; have := hB.2.2.1.2; omega
  have eca : cs_ca S (cs_rs S n) = cs_cl S cc := by
    unfold cs_ca
    rw [er, if_neg (nI_pos (by omega)), if_neg (nI_ge hcc60 (by omega)), nI_clamp (by omega)]
  have hrc := h.1.2.1 cc hcc
  have nboth : bt (cs_cl S cc) (cr_op (cs_s S n)) = false := by
    cases z : bt (cs_cl S cc) (cr_op (cs_s S n)) with
    | false => rfl
    | true =>
      exfalso
      rcases hs with e | e
      · refine hrc.2 (cs_s S n) (by omega) (by omega) ⟨br, ?_⟩
        unfold cr_op at z
        rw [if_pos (by omega)] at z; exact z
      · refine hrc.2 (cs_s S n - 10) (by omega) (by omega) ⟨?_, ?_⟩
        · unfold cr_op at z
          rw [if_neg (by omega)] at z; exact z
        · rw [show cs_s S n - 10 + 10 = cs_s S n by omega]; exact br
  have nown := cr_fl_not h.1 hc hn
  obtain ⟨c', ec'⟩ : ∃ c', c' = (c &&& (cb_set (cb_opp (cs_sg S n)) ^^^ (-nI 1))) ||| (cs_ca S (cs_rs S n) &&& (cb_set (cs_sg S n) ^^^ (-nI 1))) := ⟨_, rfl⟩
  have hbn : ∀ i, i < 32 → (bt c' i = true ↔ (bt c i = true ∧ i ≠ cr_op (cs_s S n)) ∨ (bt (cs_cl S cc) i = true ∧ i ≠ cs_s S n)) := by
    intro i hi
    rw [ec', eca, es, cb_opp_nI (by omega), b_or, b_and, b_and, b_xor, b_xor, cb_set_bt (by omega) hi, cb_set_bt (by omega) hi, cb_m1bt i hi, Bool.or_eq_true, Bool.and_eq_true, Bool.and_eq_true]
    have t : ∀ (P : Prop) [Decidable P], ((decide P ^^ true) = true ↔ ¬ P) := fun P _ => by
      by_cases z : P
      · rw [decide_eq_true z]; exact ⟨fun q => (by cases q), fun q => absurd z q⟩
      · rw [decide_eq_false z]; exact ⟨fun _ => z, fun _ => rfl⟩
    rw [t, t]
  have hc2 : cr_fl S c' := by
    intro i hi q
    rcases (hbn i hi).mp q with ⟨q1, -⟩ | ⟨q1, q2⟩
    · exact hc i hi q1
    · refine ⟨hrc.1 i hi q1, ?_⟩
      rcases orr i hi q1 with e | ⟨j, hj, e⟩
      · exact absurd e q2
      · exact ⟨j, by omega, e⟩
  refine ⟨cc, c', hcc, er, ec', hc2, fun k h1 h2 h3 => ?_, hbn, nown, nboth⟩
  have hsk := (h.1.2.2.1.1 k h2).2.1
  have hok := cr_sg9 h9 (cr_sg_op h9 hsk)
  cases z : bt c' (cr_op (cs_s S k)) with
  | false => rfl
  | true =>
    exfalso
    rcases (hbn _ (by omega)).mp z with ⟨q1, q2⟩ | ⟨q1, q2⟩
    · by_cases e : k = n
      · subst e; exact q2 rfl
      · rw [hk k (by omega) h2 h3] at q1; cases q1
    · rcases orr _ (by omega) q1 with e | ⟨j, hj, e⟩
      · exact q2 e
      · rw [cr_op_op h9 hsk] at e
        have := cr_uni h.1 (show j < cs_g S by omega) h2 (by rw [e])
        omega
end PL1
section PL2
variable {l : Launch} {y : Int32} {S : cs_S} {f q on ze le re tr : Nat → Int32} {h0 h1 : cw_H} {c0 : Int32}
abbrev pl_L (c0 : Int32) : cw_LV := [(0, .int c0), (1, .ref 0), (2, .ref 1), (3, .ref 2), (4, .ref 3), (5, .ref 4), (6, .ref 5)]
/-- a thing of the trail is in the clause -/
theorem pr_has (h : crp y S f) {c up down : Int32} (hc : cr_fl S c) (hp : pr_c c up down) {k : Nat} (hk : k < cs_g S) : bt (up ||| down) (cs_s S k % 10) = true ↔ bt c (cr_op (cs_s S k)) = true := by
  have e := cr_so h hc hk
  rw [cm_so_none (by omega)] at e
  rw [b_or, Bool.or_eq_true, (hp _ (by omega)).1, (hp _ (by omega)).2]
  constructor
  · intro z
    cases w : bt c (cr_op (cs_s S k)) with
    | true => rfl
    | false =>
      obtain ⟨w1, w2⟩ := e.mpr w
      rcases z with z | z
      · rw [w1] at z; cases z.2
      · rw [w2] at z; cases z
  · intro z
    cases w1 : bt c (cs_s S k % 10) with
    | true => exact Or.inl ⟨by omega, rfl⟩
    | false =>
      cases w2 : bt c (cs_s S k % 10 + 10) with
      | true => exact Or.inr rfl
      | false => rw [e.mp ⟨w1, w2⟩] at z; cases z
/-- how many signs of the present level -/
theorem pl_cnt_loop (h : crp y S f) (hr : pr y S q on ze le re tr) {c up down kk : Int32} (hc : cr_fl S c) (hp : pr_c c up down) (K : cw_W l mm_L_learn 0 0 h0 none h1 0 0 81 ((11, .int (nI (cs_g S))) :: (10, .int (nI (cm_pi f c (cs_g S) 0 0))) :: (9, .int kk) :: (8, .int down) :: (7, .int up) :: pl_L c0) [] (pl_h q on ze le re tr)) : ∀ n i a, i + n = cs_g S → cm_pi f c n i a = cm_pi f c (cs_g S) 0 0 → cw_W l mm_L_learn 0 0 h0 none h1 0 0 24 ((11, .int (nI i)) :: (10, .int (nI a)) :: (9, .int kk) :: (8, .int down) :: (7, .int up) :: pl_L c0) [] (pl_h q on ze le re tr) := by
  have g9 := cr_g9 h.1
  have g7 := pr_g7 h.1 hr
  intro n
  induction n with
  | zero =>
    intro i a hi e
    obtain rfl : i = cs_g S := by omega
    rw [← e] at K
    exact cw_run cw_kL_learn cw_z 5 [true] [_] [] (And.intro (rfl) (And.intro (Nat.le_of_ble_eq_true rfl) (And.intro ((show q 7 ≤ nI (cs_g S) by rw [g7]; exact Int32.le_refl _)) (K))))
  | succ n ih =>
    intro i a hi e
    have hig : i < cs_g S := by omega
    obtain ⟨t1, t2, t3⟩ := hr.2.2.2 i hig
    have m0 : ¬ q 7 ≤ nI i := by rw [g7]; exact nI_ge hig (by omega)
    have at1 := cr_at h hc hig
    have hh := pr_has h hc hp hig
    have ih1 := ih (i + 1) (a + (if cm_at f c i then 1 else 0)) (by omega) (by rw [← e]; rfl)
    have i10 : i < 10 := by omega
    have x10 : cs_s S i % 10 < 10 := by omega
    by_cases d : le (cs_s S i % 10) = q 6
    · have d' : cs_lv S i = cs_pl S (cs_g S) := by rw [← t2, d]; exact hr.1.2.2.2.2.2.2.1
      cases b : bt (up ||| down) (cs_s S i % 10) with
      | true =>
        rw [if_pos (at1.mpr ⟨d', hh.mp b⟩), ← nI_add a 1, ← nI_add i 1] at ih1
        exact cw_run cw_kL_learn cw_z 32 [false, false, false] [_, _, _, _, _] [] (And.intro (rfl) (And.intro (Nat.le_of_ble_eq_true rfl) (And.intro (m0) (And.intro (rfl) (And.intro (i10) (And.intro (t1) (And.intro (x10) (And.intro (rfl) (And.intro (Nat.le_of_ble_eq_true rfl) (And.intro ((fun z => z d)) (And.intro (rfl) (And.intro (i10) (And.intro ((show ¬ ¬ ((up ||| down) >>> (tr i &&& 31)) &&& nI 1 = nI 1 by rw [t1, pl_b1 (by omega), b]; exact fun z => z rfl)) (ih1))))))))))))))
      | false =>
        rw [if_neg (fun z => by rw [hh.mpr (at1.mp z).2] at b; cases b), ← nI_add a 0, ← nI_add i 1] at ih1
        exact cw_run cw_kL_learn cw_z 31 [false, false, true] [_, _, _, _, _] [] (And.intro (rfl) (And.intro (Nat.le_of_ble_eq_true rfl) (And.intro (m0) (And.intro (rfl) (And.intro (i10) (And.intro (t1) (And.intro (x10) (And.intro (rfl) (And.intro (Nat.le_of_ble_eq_true rfl) (And.intro ((fun z => z d)) (And.intro (rfl) (And.intro (i10) (And.intro ((show ¬ ((up ||| down) >>> (tr i &&& 31)) &&& nI 1 = nI 1 by rw [t1, pl_b1 (by omega), b]; decide)) (ih1))))))))))))))
    · rw [if_neg (fun z => d (by rw [t2, (at1.mp z).1]; exact hr.1.2.2.2.2.2.2.1.symm)), ← nI_add a 0, ← nI_add i 1] at ih1
      exact cw_run cw_kL_learn cw_z 20 [false, true] [_, _, _, _] [] (And.intro (rfl) (And.intro (Nat.le_of_ble_eq_true rfl) (And.intro (m0) (And.intro (rfl) (And.intro (i10) (And.intro (t1) (And.intro (x10) (And.intro (rfl) (And.intro (Nat.le_of_ble_eq_true rfl) (And.intro (d) (ih1)))))))))))
theorem pl_cnt (h : crp y S f) (hr : pr y S q on ze le re tr) {c up down kk : Int32} (hc : cr_fl S c) (hp : pr_c c up down)
    (K1 : cb_bc (c &&& cr_ps S) ≤ nI 1 → cw_W l mm_L_learn 0 0 h0 none h1 0 0 164 ((8, .int down) :: (7, .int up) :: pl_L c0) [] (pl_h q on ze le re tr))
    (K2 : ¬ cb_bc (c &&& cr_ps S) ≤ nI 1 → cw_W l mm_L_learn 0 0 h0 none h1 0 0 90 ((9, .int kk) :: (8, .int down) :: (7, .int up) :: pl_L c0) [] (pl_h q on ze le re tr)) : cw_W l mm_L_learn 0 0 h0 none h1 0 0 18 ((9, .int kk) :: (8, .int down) :: (7, .int up) :: pl_L c0) [] (pl_h q on ze le re tr) := by
  have g9 := cr_g9 h.1
  have e1 := cm_pi_ct f c (cs_g S) 0 0
  rw [Nat.zero_add, Nat.zero_add, show fb_ct (cm_at f c) 0 = 0 from rfl, Nat.add_zero] at e1
  have hle := fb_ct_le (cm_at f c) (cs_g S)
  have cnt := cr_cnt h hc
  refine cw_run cw_kL_learn cw_z 4 [] [] [] (pl_cnt_loop h hr hc hp ?_ (cs_g S) 0 0 (by omega) rfl)
  by_cases d : cm_pi f c (cs_g S) 0 0 ≤ 1
  · exact cw_run cw_kL_learn cw_z 4 [false] [] [] (And.intro ((show ¬ nI 1 < nI (cm_pi f c (cs_g S) 0 0) from nI_nlt d (by omega))) (cw_less [3, 4, 5, 6, 7, 8, 9, 10, 11] rfl (K1 (cnt.mpr d))))
  · exact cw_run cw_kL_learn cw_z 3 [true] [] [] (And.intro (nI_lt (show 1 < cm_pi f c (cs_g S) 0 0 by omega) (by omega)) (cw_less [2, 3, 4, 5, 6, 7, 8, 9, 10, 11] rfl (K2 (fun z => d (cnt.mp z)))))
/-- the new clause, out of the conflict -/
theorem pl_out (h : crp y S f) (hr : pr y S q on ze le re tr) {cx : Int32} (K : ∀ up down, pr_c cx up down → cw_W l mm_L_learn 0 0 h0 none h1 0 0 164 ((8, .int down) :: (7, .int up) :: pl_L c0) [] (pl_h q on ze le re tr)) : ∀ n c up down, n ≤ cs_g S → cs_coo S (cr_ps S) n c = cx → cr_fl S c → (∀ k, n ≤ k → k < cs_g S → cs_lv S k = cs_pl S (cs_g S) → bt c (cr_op (cs_s S k)) = false) → ¬ cb_bc (c &&& cr_ps S) ≤ nI 1 → pr_c c up down → cw_W l mm_L_learn 0 0 h0 none h1 0 0 90 ((9, .int (nI n - nI 1)) :: (8, .int down) :: (7, .int up) :: pl_L c0) [] (pl_h q on ze le re tr) := by
  have g9 := cr_g9 h.1
  have h9 := cr_k9 h.1
  intro n
  induction n with
  | zero =>
    intro c up down hn e hc hk d hp
    exfalso
    have e1 := cm_pi_ct f c (cs_g S) 0 0
    rw [Nat.zero_add, Nat.zero_add, show fb_ct (cm_at f c) 0 = 0 from rfl, Nat.add_zero] at e1
    have z : fb_ct (cm_at f c) (cs_g S) = 0 := fb_ct_zero.mpr (fun k hk2 => by
      cases b : cm_at f c k with
      | false => rfl
      | true =>
        obtain ⟨a1, a2⟩ := (cr_at h hc hk2).mp b
        rw [hk k (Nat.zero_le _) hk2 a1] at a2
        cases a2)
    exact d ((cr_cnt h hc).mpr (by omega))
  | succ n ih =>
    intro c up down hn e hc hk d hp
    have hng : n < cs_g S := by omega
    obtain ⟨t1, t2, t3⟩ := hr.2.2.2 n hng
    obtain ⟨es, hs, -⟩ := h.1.2.2.1.1 n hng
    have hs9 := cr_sg9 h9 hs
    have e0 : nI (n + 1) - nI 1 = nI n := by rw [pk_sub (by omega)]; rfl
    have n10 : n < 10 := by omega
    have x10 : cs_s S n % 10 < 10 := by omega
    have hh := pr_has h hc hp hng
    have ecoo : ∀ {c2 : Int32}, cs_coo S (cr_ps S) (n + 1) c2 = if cb_bc (c2 &&& cr_ps S) ≤ nI 1 then c2 else cs_coo S (cr_ps S) n (if bt c2 (cr_op (cs_s S n)) then (c2 &&& (cb_set (cb_opp (cs_sg S n)) ^^^ (-nI 1))) ||| (cs_ca S (cs_rs S n) &&& (cb_set (cs_sg S n) ^^^ (-nI 1))) else c2) := by
      intro c2
      conv => lhs; unfold cs_coo
      rw [es, cb_opp_nI (by omega), cb_hs_bt (by have := cr_sg9 h9 (cr_sg_op h9 hs); omega)]
    rw [ecoo, if_neg d] at e
    rw [e0]
    cases b : bt c (cr_op (cs_s S n)) with
    | false =>
      rw [b, if_neg (by decide)] at e
      have ih1 := ih c up down (by omega) e hc (fun k h1 h2 h3 => by
        by_cases w : k = n
        · subst w; exact b
        · exact hk k (by omega) h2 h3) d hp
      rw [← cb_m] at ih1
      have nb : bt (up ||| down) (cs_s S n % 10) = false := by
        cases w : bt (up ||| down) (cs_s S n % 10) with
        | false => rfl
        | true => rw [hh.mp w] at b; cases b
      exact cw_run cw_kL_learn cw_z 12 [false] [_] [] (And.intro (rfl) (And.intro (n10) (And.intro ((show ¬ ¬ ((up ||| down) >>> (tr n &&& 31)) &&& nI 1 = 0 by rw [t1, pl_b1 (by omega), nb]; exact fun z => z rfl)) (ih1))))
    | true =>
      obtain ⟨cc, c', hcc, er, ec', hc2, hk2, hbn, nown, nboth⟩ := cr_coo1 h hng hc (fun k h1 h2 h3 => hk k (by omega) h2 h3) d b
      rw [b, if_pos rfl, ← ec'] at e
      have hcc61 : cc < 61 := by have := cr_n60 h; omega
      have e3 : re (cs_s S n % 10) = nI cc := t3.trans er
      have hb : ∀ (u v : Int32) (i : Nat), i < 32 → (bt ((u ||| v) &&& ((nI 1 <<< (tr n &&& 31)) ^^^ (-nI 1))) i = true ↔ (bt u i = true ∨ bt v i = true) ∧ i ≠ cs_s S n % 10) := by
        intro u v i hi
        rw [t1, b_and, b_or, b_xor, cb_one (by omega) hi, b_m1' i hi, Bool.and_eq_true, Bool.or_eq_true]
        by_cases w : i = cs_s S n % 10
        · rw [decide_eq_true w]; exact ⟨fun z => (by cases z.2), fun z => absurd w z.2⟩
        · rw [decide_eq_false w]; exact ⟨fun z => ⟨z.1, w⟩, fun z => ⟨z.1, rfl⟩⟩
      have opx : cr_op (cs_s S n) % 10 = cs_s S n % 10 := cr_op_mod (by omega)
      have ho9 := cr_sg9 h9 (cr_sg_op h9 hs)
      have two : ∀ i, i % 10 = cs_s S n % 10 → i < 20 → i = cs_s S n ∨ i = cr_op (cs_s S n) := by
        intro i h1 h2
        unfold cr_op
        split <;> omega
      -- no sign of that thing is left
      have none : ∀ i, i % 10 = cs_s S n % 10 → i < 20 → bt c' i = false := by
        intro i h1 h2
        cases w : bt c' i with
        | false => rfl
        | true =>
          exfalso
          rcases two i h1 h2 with rfl | rfl
          · rcases (hbn _ (by omega)).mp w with z | z
            · rw [nown] at z; cases z.1
            · exact z.2 rfl
          · rcases (hbn _ (by omega)).mp w with z | z
            · exact z.2 rfl
            · rw [nboth] at z; cases z.1
      have any : ∀ i, i < 32 → i % 10 ≠ cs_s S n % 10 → (bt c' i = true ↔ bt c i = true ∨ bt (cs_cl S cc) i = true) := by
        intro i hi hx
        rw [hbn i hi]
        have z1 : i ≠ cr_op (cs_s S n) := fun z => hx (by rw [z]; exact opx)
        have z2 : i ≠ cs_s S n := fun z => hx (by rw [z])
        constructor
        · rintro (z | z)
          · exact Or.inl z.1
          · exact Or.inr z.1
        · rintro (z | z)
          · exact Or.inl ⟨z, z1⟩
          · exact Or.inr ⟨z, z2⟩
      have hcl := hr.2.2.1 cc hcc
      have hlo : ∀ i, 20 ≤ i → i < 32 → bt c' i = false := by
        intro i h1 h2
        cases w : bt c' i with
        | false => rfl
        | true => have := cr_sg9 h9 (hc2 i h2 w).1; omega
      have hp2 : pr_c c' ((up ||| on cc) &&& ((nI 1 <<< (tr n &&& 31)) ^^^ (-nI 1))) ((down ||| ze cc) &&& ((nI 1 <<< (tr n &&& 31)) ^^^ (-nI 1))) := by
        intro i hi
        refine ⟨?_, ?_⟩
        · rw [hb _ _ i hi, (hp i hi).1, (hcl i hi).1]
          constructor
          · rintro ⟨z1, z2⟩
            have i10 : i < 10 := by rcases z1 with z | z <;> exact z.1
            refine ⟨i10, (any i hi (by omega)).mpr ?_⟩
            rcases z1 with z | z
            · exact Or.inl z.2
            · exact Or.inr z.2
          · rintro ⟨z1, z2⟩
            have hne : i ≠ cs_s S n % 10 := fun z => by rw [none i (by omega) (by omega)] at z2; cases z2
            refine ⟨?_, hne⟩
            rcases (any i hi (by omega)).mp z2 with z | z
            · exact Or.inl ⟨z1, z⟩
            · exact Or.inr ⟨z1, z⟩
        · rw [hb _ _ i hi, (hp i hi).2, (hcl i hi).2]
          rcases Nat.lt_or_ge (i + 10) 32 with w | w
          · rcases Nat.lt_or_ge i 10 with w2 | w2
            · constructor
              · rintro ⟨z1, z2⟩
                exact (any (i + 10) w (by omega)).mpr z1
              · intro z2
                have hne : i ≠ cs_s S n % 10 := fun z => by rw [none (i + 10) (by omega) (by omega)] at z2; cases z2
                exact ⟨(any (i + 10) w (by omega)).mp z2, hne⟩
            · have n1 : bt c' (i + 10) = false := hlo _ (by omega) w
              have n2 : bt c (i + 10) = false := by
                cases u : bt c (i + 10) with
                | false => rfl
                | true => have := cr_sg9 h9 (hc _ w u).1; omega
              have n3 : bt (cs_cl S cc) (i + 10) = false := by
                cases u : bt (cs_cl S cc) (i + 10) with
                | false => rfl
                | true => have := cr_sg9 h9 ((h.1.2.1 cc hcc).1 _ w u); omega
              rw [n1, n2, n3]
              constructor
              · rintro ⟨z | z, -⟩ <;> cases z
              · intro z; cases z
          · rw [b_big w, b_big w, b_big w]
            constructor
            · rintro ⟨z | z, -⟩ <;> cases z
            · intro z; cases z
      have bb : bt (up ||| down) (cs_s S n % 10) = true := hh.mpr b
      have nc : bt c' (cr_op (cs_s S n)) = false := none _ opx (by omega)
      refine cw_run cw_kL_learn cw_z 45 [true] [_, _, _, _, _, _, _, _] [] (And.intro (rfl) (And.intro (n10) (And.intro ((show ¬ ((up ||| down) >>> (tr n &&& 31)) &&& nI 1 = 0 by rw [t1, pl_b1 (by omega), bb]; decide)) (And.intro (rfl) (And.intro (n10) (And.intro (rfl) (And.intro (n10) (And.intro (t1) (And.intro (x10) (And.intro (e3) (And.intro (hcc61) (And.intro (rfl) (And.intro (n10) (And.intro (t1) (And.intro (x10) (And.intro (e3) (And.intro (hcc61) (cw_less [3, 0, 1, 4, 5, 6, 7, 8, 9, 10] rfl (pl_cnt h hr hc2 hp2 (fun d2 => ?_) (fun d2 => ?_))))))))))))))))))))
      · refine K _ _ ?_
        rw [show cx = c' by
          rw [← e]
          cases n with
          | zero => rfl
          | succ m => unfold cs_coo; rw [if_pos d2]]
        exact hp2
      · have w := ih c' _ _ (by omega) e hc2 hk2 d2 hp2
        have nb : bt (((up ||| on cc) &&& ((nI 1 <<< (tr n &&& 31)) ^^^ (-nI 1))) ||| ((down ||| ze cc) &&& ((nI 1 <<< (tr n &&& 31)) ^^^ (-nI 1)))) (cs_s S n % 10) = false := by
          cases u : bt (((up ||| on cc) &&& ((nI 1 <<< (tr n &&& 31)) ^^^ (-nI 1))) ||| ((down ||| ze cc) &&& ((nI 1 <<< (tr n &&& 31)) ^^^ (-nI 1)))) (cs_s S n % 10) with
          | false => rfl
          | true => rw [(pr_has h hc2 hp2 hng).mp u] at nc; cases nc
        rw [← cb_m] at w
        exact cw_run cw_kL_learn cw_z 12 [false] [_] [] (And.intro (rfl) (And.intro (n10) (And.intro ((show ¬ ¬ ((((up ||| on cc) &&& ((nI 1 <<< (tr n &&& 31)) ^^^ (-nI 1))) ||| ((down ||| ze cc) &&& ((nI 1 <<< (tr n &&& 31)) ^^^ (-nI 1)))) >>> (tr n &&& 31)) &&& nI 1 = 0 by rw [t1] at nb ⊢; rw [pl_b1 (by omega), nb]; exact fun z => z rfl)) (w))))
/-- the level to go to -/
theorem pl_lev (h : crp y S f) (hr : pr y S q on ze le re tr) {c up down : Int32} (hc : cr_fl S c) (hp : pr_c c up down) (K : cw_W l mm_L_learn 0 0 h0 none h1 0 0 245 ((10, .int (cs_lbp S c (cs_g S) 0 (nI 0))) :: (8, .int down) :: (7, .int up) :: pl_L c0) [] (pl_h q on ze le re tr)) : ∀ n i a, i + n = cs_g S → cs_lbp S c n i a = cs_lbp S c (cs_g S) 0 (nI 0) → cw_W l mm_L_learn 0 0 h0 none h1 0 0 170 ((11, .int (nI i)) :: (10, .int a) :: (8, .int down) :: (7, .int up) :: pl_L c0) [] (pl_h q on ze le re tr) := by
  have g9 := cr_g9 h.1
  have h9 := cr_k9 h.1
  have g7 := pr_g7 h.1 hr
  intro n
  induction n with
  | zero =>
    intro i a hi e
    obtain rfl : i = cs_g S := by omega
    rw [← e] at K
    exact cw_run cw_kL_learn cw_z 5 [true] [_] [] (And.intro (rfl) (And.intro (Nat.le_of_ble_eq_true rfl) (And.intro ((show q 7 ≤ nI (cs_g S) by rw [g7]; exact Int32.le_refl _)) (cw_less [1, 2, 3, 4, 5, 6, 7, 8, 9, 10] rfl K))))
  | succ n ih =>
    intro i a hi e
    have hig : i < cs_g S := by omega
    obtain ⟨t1, t2, t3⟩ := hr.2.2.2 i hig
    obtain ⟨es, hs, -⟩ := h.1.2.2.1.1 i hig
    have hs9 := cr_sg9 h9 hs
    have m0 : ¬ q 7 ≤ nI i := by rw [g7]; exact nI_ge hig (by omega)
    have hh := pr_has h hc hp hig
    have i10 : i < 10 := by omega
    have x10 : cs_s S i % 10 < 10 := by omega
    have q6 : q 6 = cs_pl S (cs_g S) := hr.1.2.2.2.2.2.2.1
    have el : cs_lbp S c (n + 1) i a = cs_lbp S c n (i + 1) (if bt c (cr_op (cs_s S i)) then (if cs_pl S (cs_g S) ≤ cs_lv S i then a else (if a < cs_lv S i then cs_lv S i else a)) else a) := by
      conv => lhs; unfold cs_lbp
      rw [es, cb_opp_nI (by omega), cb_hs_bt (by have := cr_sg9 h9 (cr_sg_op h9 hs); omega)]
    rw [el] at e
    have ih1 := ih (i + 1) _ (by omega) e
    rw [← nI_add i 1] at ih1
    cases b : bt c (cr_op (cs_s S i)) with
    | false =>
      rw [b, if_neg (by decide)] at ih1
      have nb : bt (up ||| down) (cs_s S i % 10) = false := by
        cases w : bt (up ||| down) (cs_s S i % 10) with
        | false => rfl
        | true => rw [hh.mp w] at b; cases b
      exact cw_run cw_kL_learn cw_z 20 [false, true] [_, _] [] (And.intro (rfl) (And.intro (Nat.le_of_ble_eq_true rfl) (And.intro (m0) (And.intro (rfl) (And.intro (i10) (And.intro ((show ¬ ((up ||| down) >>> (tr i &&& 31)) &&& nI 1 = nI 1 by rw [t1, pl_b1 (by omega), nb]; decide)) (ih1)))))))
    | true =>
      have nb : ¬ ¬ ((up ||| down) >>> (tr i &&& 31)) &&& nI 1 = nI 1 := by rw [t1, pl_b1 (by omega), hh.mpr b]; exact fun z => z rfl
      rw [b, if_pos rfl] at ih1
      by_cases d : cs_pl S (cs_g S) ≤ cs_lv S i
      · rw [if_pos d] at ih1
        exact cw_run cw_kL_learn cw_z 29 [false, false, true] [_, _, _, _, _] [] (And.intro (rfl) (And.intro (Nat.le_of_ble_eq_true rfl) (And.intro (m0) (And.intro (rfl) (And.intro (i10) (And.intro (nb) (And.intro (rfl) (And.intro (i10) (And.intro (t1) (And.intro (x10) (And.intro (rfl) (And.intro (Nat.le_of_ble_eq_true rfl) (And.intro ((show q 6 ≤ le (cs_s S i % 10) by rw [q6, t2]; exact d)) (ih1))))))))))))))
      · rw [if_neg d] at ih1
        have d2 : ¬ q 6 ≤ le (cs_s S i % 10) := by rw [q6, t2]; exact d
        by_cases w : a < cs_lv S i
        · rw [if_pos w, ← t2] at ih1
          exact cw_run cw_kL_learn cw_z 41 [false, false, false, false] [_, _, _, _, _, _, _, _, _] [] (And.intro (rfl) (And.intro (Nat.le_of_ble_eq_true rfl) (And.intro (m0) (And.intro (rfl) (And.intro (i10) (And.intro (nb) (And.intro (rfl) (And.intro (i10) (And.intro (t1) (And.intro (x10) (And.intro (rfl) (And.intro (Nat.le_of_ble_eq_true rfl) (And.intro (d2) (And.intro (rfl) (And.intro (i10) (And.intro (t1) (And.intro (x10) (And.intro ((show ¬ le (cs_s S i % 10) ≤ a by rw [t2]; exact Int32.not_le.mpr w)) (And.intro (rfl) (And.intro (i10) (And.intro (t1) (And.intro (x10) (ih1)))))))))))))))))))))))
        · rw [if_neg w] at ih1
          exact cw_run cw_kL_learn cw_z 36 [false, false, false, true] [_, _, _, _, _, _, _] [] (And.intro (rfl) (And.intro (Nat.le_of_ble_eq_true rfl) (And.intro (m0) (And.intro (rfl) (And.intro (i10) (And.intro (nb) (And.intro (rfl) (And.intro (i10) (And.intro (t1) (And.intro (x10) (And.intro (rfl) (And.intro (Nat.le_of_ble_eq_true rfl) (And.intro (d2) (And.intro (rfl) (And.intro (i10) (And.intro (t1) (And.intro (x10) (And.intro ((show le (cs_s S i % 10) ≤ a by rw [t2]; exact Int32.not_lt.mp w)) (ih1)))))))))))))))))))
end PL2
