/-! p24: one step, both ways -/
section PL5
variable {l : Launch} {S : cs_S} {f q on ze le re tr : Nat → Int32}
theorem pl_q6 {q : Nat → Int32} {v : Int32} (e : q 6 = v) : upd q 6 v = q := by
  funext j
  unfold upd
  by_cases c : j = 6
  · rw [if_pos c, c, e]
  · rw [if_neg c]
theorem pr_wsp {y : Int32} (h : pr y S q on ze le re tr) : pr (cs_sp (cs_wsp S y)) (cs_wsp S y) q on ze le re tr := h
set_option maxRecDepth 10000 in
set_option maxHeartbeats 4000000 in
theorem pl_step (h : cr S f) (hr : pr (cs_sp S) S q on ze le re tr) : ∃ f' q' on' ze' le' re' tr', cr (cs_stp1 S) f' ∧ pr (cs_sp (cs_stp1 S)) (cs_stp1 S) q' on' ze' le' re' tr' ∧ cw_M l mm_L_step 0 0 [.ref 0, .ref 1, .ref 2, .ref 3, .ref 4, .ref 5] (pl_h q on ze le re tr) none (pl_h q' on' ze' le' re' tr') := by
  have e9 : f 9 = cs_sp S := h.2.1.2.2.2.2.2.2.2.2.2
  have hc0 : crp (cs_sp S + nI 1) S (cm_s0 f) := by
    unfold cm_s0
    rw [e9]
    exact crp_s0 h _
  have q9 : q 9 = cs_sp S := hr.1.2.2.2.2.2.2.2.2.2
  have hr0 := pr_sp hr (q 9 + nI 1)
  have hB := hc0.1.1.1
  have e3 : q 3 + q 4 = nI (cs_t S + cs_n S) := by rw [hr.1.2.2.2.1, hr.1.2.2.2.2.1, hB.2.1.1, hB.2.2.1.1, nI_add]
  have ent : ∀ {h0 h1 : cw_H}, cw_W l mm_L_step 0 0 h0 none h1 0 0 20 ((7, .int (nI 0)) :: (6, .int (nI (cs_t S + cs_n S))) :: pl_M) [] (pl_h (upd q 9 (q 9 + nI 1)) on ze le re tr) → cw_W l mm_L_step 0 0 h0 none h1 0 0 0 pl_M [] (pl_h q on ze le re tr) := by
    intro h0 h1 K
    rw [← e3] at K
    exact cw_run cw_kL_step cw_z 17 [] [_, _, _, _] [] (And.intro (rfl) (And.intro (Nat.le_of_ble_eq_true rfl) (And.intro (rfl) (And.intro (Nat.le_of_ble_eq_true rfl) (And.intro (rfl) (And.intro (Nat.le_of_ble_eq_true rfl) (And.intro (rfl) (And.intro (Nat.le_of_ble_eq_true rfl) (K)))))))))
  rw [show q 9 + nI 1 = cs_sp S + nI 1 by rw [q9]] at hr0 ent
  obtain ⟨q1, hq1⟩ : ∃ q1, q1 = upd q 9 (cs_sp S + nI 1) := ⟨_, rfl⟩
  rw [← hq1] at hr0 ent
  have fin : ∀ {f' q' on' ze' le' re' tr' : Nat → Int32}, crp (cs_sp S + nI 1) (cs_one S) f' → pr (cs_sp S + nI 1) (cs_one S) q' on' ze' le' re' tr' → cr (cs_stp1 S) f' ∧ pr (cs_sp (cs_stp1 S)) (cs_stp1 S) q' on' ze' le' re' tr' := by
    intro f' q' on' ze' le' re' tr' a b
    have e : cs_stp1 S = cs_wsp (cs_one S) (cs_sp S + nI 1) := by unfold cs_stp1; rw [cs_sp_one]
    rw [e]
    exact ⟨crp_sp a, pr_wsp b⟩
  have h9 := cr_k9 hc0.1
  have n60 := cr_n60 hc0
  have lt0 : (-nI 6 : Int32) < 0 := by decide
  have q6 : q1 6 = cs_pl S (cs_g S) := hr0.1.2.2.2.2.2.2.1
  have hpl := cr_pl hc0.1
  have hpv := cr_pv_le hc0.1
  have g7 := pr_g7 hc0.1 hr0
  rcases cr_fu0 hc0 with ⟨c1, -⟩ | ⟨k, hk, hp, c1, -⟩
  · have s1 : ∀ {h0 h1 : cw_H}, cw_W l mm_L_step 0 0 h0 none h1 0 0 89 ((7, .int (nI 0)) :: (6, .int (nI (cs_t S + cs_n S))) :: pl_M) [] (pl_h q1 on ze le re tr) → cw_W l mm_L_step 0 0 h0 none h1 0 0 0 pl_M [] (pl_h q on ze le re tr) := by
      intro h0 h1 K
      refine ent (pl_s1 hc0 hr0 (fun _ => cw_run cw_kL_step cw_z 2 [] [] [] K) (fun j hj e => ?_) (cs_t S + cs_n S) 0 (by omega) rfl)
      rw [c1] at e
      exact absurd e.symm (cm_n6 (by omega))
    rcases cr_fu1 hc0 with ⟨d1, -⟩ | ⟨k, hk, hp, d1, -⟩
    · have s2 : ∀ {h0 h1 : cw_H}, cw_W l mm_L_step 0 0 h0 none h1 0 0 185 ((7, .int (nI 1)) :: pl_M) [] (pl_h q1 on ze le re tr) → cw_W l mm_L_step 0 0 h0 none h1 0 0 0 pl_M [] (pl_h q on ze le re tr) := by
        intro h0 h1 K
        refine s1 (pl_s2 hc0 hr0 (fun _ => cw_run cw_kL_step cw_z 2 [] [] [] (cw_less [0, 2, 3, 4, 5, 6, 7] rfl K)) (fun j hj e => ?_) (cs_t S + cs_n S) 0 (by omega) rfl)
        rw [d1] at e
        exact absurd e.symm (cm_n6 (by omega))
      rcases cr_low hc0 with ⟨x1, -⟩ | ⟨x, hx1, hx2, x1, x3, -⟩
      · -- it fits
        have ec : cs_one S = cs_wsd S (nI 1) := by
          unfold cs_one
          rw [c1, if_pos lt0, d1, if_pos lt0, x1, if_pos (by decide)]
        obtain ⟨a, b⟩ := fin (f' := upd (cm_s0 f) 5 (nI 1)) (q' := upd q1 5 (nI 1)) (by rw [ec]; exact crp_sd hc0 (Or.inr (Or.inl rfl))) (by rw [ec]; exact pr_sd hr0 (nI 1))
        refine ⟨_, _, _, _, _, _, _, a, b, cw_enter cw_KL_step (by decide) (Nat.le_of_ble_eq_true rfl) (s2 (pl_s4 hc0 hr0 (fun _ => ?_) (fun j hj1 hj2 e => ?_) (cs_k S) 1 (by omega) (by omega) rfl))⟩
        · exact cw_run cw_kL_step cw_z 4 [] [_] [] (And.intro (rfl) (And.intro (Nat.le_of_ble_eq_true rfl) (cw_retv cw_kL_step cw_z rfl rfl)))
        · rw [x1] at e
          exact absurd e.symm (cm_n6 (by omega))
      · -- a thing is decided
        have hsx : cr_sg (cs_k S) x := Or.inl ⟨hx1, hx2⟩
        have hfi := hc0.1.1.2.2.2.1
        obtain ⟨i, hi, him, hone, his⟩ : ∃ i, cr_sg (cs_k S) i ∧ i % 10 = x ∧ decide (i < 10) = decide (cs_fi S = nI 1) ∧ (if cs_fi S = nI 1 then nI x else cb_opp (nI x)) = nI i := by
          rcases hfi with e | e
          · refine ⟨x + 10, Or.inr ⟨by omega, by omega⟩, by omega, ?_, ?_⟩
            · rw [e, decide_eq_false (by omega), decide_eq_false (by decide)]
            · rw [e, if_neg (by decide), cb_opp_nI (by omega)]
              unfold cr_op; rw [if_pos (by omega)]
          · refine ⟨x, hsx, by omega, ?_, ?_⟩
            · rw [e, decide_eq_true (by omega), decide_eq_true rfl]
            · rw [e, if_pos rfl]
        obtain ⟨v1, v2⟩ := (cr_open_thing hc0 hx1 hx2).2 x3 i hi him
        obtain ⟨g8, hxx⟩ := cr_g8 hc0.1 hi v1 v2
        have gi := cr_give hc0 (i := i) (m := cs_pv S (cs_g S) + 1) (r := -nI 6) hi v1 v2 (by omega) (Or.inr ⟨rfl, rfl⟩)
        have gr := pr_give hc0.1 hr0 (i := i) (m := cs_pv S (cs_g S) + 1) (r := -nI 6) hi hxx g8
        have ec : cs_one S = cs_give S (nI i) (nI (cs_pv S (cs_g S) + 1)) (-nI 6) := by
          unfold cs_one
          rw [c1, if_pos lt0, d1, if_pos lt0, x1, if_neg (nI_nle (by omega) (by omega)), his, hpl, nI_add]
        obtain ⟨a, b⟩ := fin (by rw [ec]; exact gi) (by rw [ec]; exact gr)
        rw [him, hone] at b
        refine ⟨_, _, _, _, _, _, _, a, b, cw_enter cw_KL_step (by decide) (Nat.le_of_ble_eq_true rfl) (s2 (pl_s4 hc0 hr0 (fun e => ?_) (fun j hj1 hj2 e => ?_) (cs_k S) 1 (by omega) (by omega) rfl))⟩
        · rw [x1] at e
          exact absurd e (cm_n6 (by omega))
        · rw [x1] at e
          obtain rfl := (nI_eq (by omega) (by omega)).mp e
          have e6 : q1 6 + nI 1 = nI (cs_pv S (cs_g S) + 1) := by rw [q6, hpl, nI_add]
          have q2 : q1 2 = cs_fi S := hr0.1.2.2.1
          have gv := pl_give (l := l) (q := upd q1 6 (q1 6 + nI 1)) (on := on) (ze := ze) (le := le) (re := re) (tr := tr) (g := cs_g S) (t := x) (decide (cs_fi S = nI 1)) (r := -nI 6) g7 (by omega) (by omega)
          rw [show (upd q1 6 (q1 6 + nI 1)) 6 = nI (cs_pv S (cs_g S) + 1) from e6] at gv
          rw [← e6] at gv ⊢
          by_cases w : cs_fi S = nI 1
          · rw [decide_eq_true w] at gv ⊢
            exact cw_run cw_kL_step cw_z 21 [false] [_, _, _] [(_, _)] (And.intro (rfl) (And.intro (Nat.le_of_ble_eq_true rfl) (And.intro (rfl) (And.intro (Nat.le_of_ble_eq_true rfl) (And.intro (rfl) (And.intro (Nat.le_of_ble_eq_true rfl) (And.intro ((fun z => z (q2.trans w))) (And.intro (gv) (And.intro (Nat.le_refl _) (cw_retv cw_kL_step cw_z rfl rfl))))))))))
          · rw [decide_eq_false w] at gv ⊢
            exact cw_run cw_kL_step cw_z 20 [true] [_, _, _] [(_, _)] (And.intro (rfl) (And.intro (Nat.le_of_ble_eq_true rfl) (And.intro (rfl) (And.intro (Nat.le_of_ble_eq_true rfl) (And.intro (rfl) (And.intro (Nat.le_of_ble_eq_true rfl) (And.intro ((fun z => w (q2.symm.trans z))) (And.intro (gv) (And.intro (Nat.le_refl _) (cw_retv cw_kL_step cw_z rfl rfl))))))))))
    · -- a clause tells
      obtain ⟨i, hi, b1, v1, v2, ho, hrs⟩ := cr_one_open hc0 hk hp
      have hk60 := cr_t60 hc0 hk
      have hi9 := cr_sg9 h9 hi
      obtain ⟨g8, hxx⟩ := cr_g8 hc0.1 hi v1 v2
      have hc := hc0.1.2.1 k hk
      have gi := cr_give hc0 (i := i) (m := cs_pv S (cs_g S)) (r := nI k) hi v1 v2 (by omega) (Or.inl ⟨rfl, k, hk, rfl, b1, hrs⟩)
      have gr := pr_give hc0.1 hr0 (i := i) (m := cs_pv S (cs_g S)) (r := nI k) hi hxx g8
      have q6' : q1 6 = nI (cs_pv S (cs_g S)) := q6.trans hpl
      have ec : cs_one S = cs_give S (nI i) (nI (cs_pv S (cs_g S))) (nI k) := by
        unfold cs_one
        rw [c1, if_pos lt0, d1, if_neg (nI_pos (by omega)), cs_ca_nI hk60, hpl, cb_sio_one (cr_sg_mono h9 hi) ho 9 1 (by omega) (by omega) (by omega)]
      obtain ⟨a, b⟩ := fin (by rw [ec]; exact gi) (by rw [ec]; exact gr)
      rw [pl_q6 q6'] at b
      refine ⟨_, _, _, _, _, _, _, a, b, cw_enter cw_KL_step (by decide) (Nat.le_of_ble_eq_true rfl) (s1 (pl_s2 hc0 hr0 (fun e => ?_) (fun j hj e => ?_) (cs_t S + cs_n S) 0 (by omega) rfl))⟩
      · rw [d1] at e
        exact absurd e (cm_n6 (by omega))
      · rw [d1] at e
        obtain rfl := (nI_eq (by omega) (by omega)).mp e
        have eop : pl_op q1 on ze k = nI 1 <<< (nI (i % 10) &&& 31) := by
          apply b_ext
          intro t ht
          have e1 := pr_op_bt hc0.1 hc (hr0.2.2.1 k hk) hr0.2.1 ht
          rw [cb_one (by omega) ht]
          have e2 : bt (pl_op q1 on ze k) t = true ↔ t = i % 10 := by
            refine e1.trans ?_
            constructor
            · rintro ⟨t10, z | z⟩
              · have := (ho t ht).mp z; omega
              · have := (ho (t + 10) (by omega)).mp z; omega
            · intro z
              refine ⟨by omega, ?_⟩
              by_cases w : i < 10
              · exact Or.inl ((ho t ht).mpr (by omega))
              · exact Or.inr ((ho (t + 10) (by omega)).mpr (by omega))
          by_cases w : t = i % 10
          · rw [decide_eq_true w]; exact e2.mpr w
          · rw [decide_eq_false w]
            cases u : bt (pl_op q1 on ze k) t with
            | false => rfl
            | true => exact absurd (e2.mp u) w
        have gv := pl_give (l := l) (q := q1) (on := on) (ze := ze) (le := le) (re := re) (tr := tr) (g := cs_g S) (t := i % 10) (decide (i < 10)) (r := nI k) g7 (by omega) (by omega)
        rw [q6'] at gv
        rw [eop]
        have eon : bt (on k) (i % 10) = true ↔ i < 10 := by
          rw [((hr0.2.2.1 k hk) (i % 10) (by omega)).1]
          constructor
          · rintro ⟨-, z⟩
            refine Classical.byContradiction fun w => ?_
            exact hc.2 (i % 10) (by omega) (by omega) ⟨z, by rw [show i % 10 + 10 = i by omega]; exact b1⟩
          · intro z
            exact ⟨by omega, by rw [Nat.mod_eq_of_lt z]; exact b1⟩
        have k61 : k < 61 := by omega
        refine cw_run cw_kL_step cw_z 2 [] [] [] (pl_s3 (x := i % 10) (by omega) ?_ (i % 10 - 1) 1 (by omega))
        by_cases w : i < 10
        · rw [decide_eq_true w] at gv ⊢
          exact cw_run cw_kL_step cw_z 15 [false] [_] [(_, _)] (And.intro (rfl) (And.intro (k61) (And.intro ((show ¬ on k &&& (nI 1 <<< (nI (i % 10) &&& 31)) = 0 from fun z => absurd (eon.mpr w) (by rw [(cb_has (by omega)).mp z]; decide))) (And.intro (gv) (And.intro (Nat.le_refl _) (cw_retv cw_kL_step cw_z rfl rfl))))))
        · rw [decide_eq_false w] at gv ⊢
          exact cw_run cw_kL_step cw_z 14 [true] [_] [(_, _)] (And.intro (rfl) (And.intro (k61) (And.intro ((show on k &&& (nI 1 <<< (nI (i % 10) &&& 31)) = 0 from (cb_has (by omega)).mpr (by
            cases u : bt (on k) (i % 10) with
            | false => rfl
            | true => exact absurd (eon.mp u) w))) (And.intro (gv) (And.intro (Nat.le_refl _) (cw_retv cw_kL_step cw_z rfl rfl))))))
  · have hk60 := cr_t60 hc0 hk
    have ec : cs_one S = cs_meet S (nI k) := by
      unfold cs_one
      rw [c1, if_neg (nI_pos (by omega))]
    have s1 : ∀ {h0 h1 : cw_H}, cw_W l mm_L_step 0 0 h0 none h1 0 0 52 ((7, .int (nI k)) :: (6, .int (nI (cs_t S + cs_n S))) :: pl_M) [] (pl_h q1 on ze le re tr) → cw_W l mm_L_step 0 0 h0 none h1 0 0 0 pl_M [] (pl_h q on ze le re tr) := by
      intro h0 h1 K
      refine ent (pl_s1 hc0 hr0 (fun e => ?_) (fun j hj e => ?_) (cs_t S + cs_n S) 0 (by omega) rfl)
      · rw [c1] at e
        exact absurd e (cm_n6 (by omega))
      · rw [c1] at e
        obtain rfl := (nI_eq (by omega) (by omega)).mp e
        exact K
    by_cases z : cs_pl S (cs_g S) = 0
    · have em : cs_meet S (nI k) = cs_wsd S (nI 2) := by unfold cs_meet; rw [if_pos z]
      obtain ⟨a, b⟩ := fin (f' := upd (cm_s0 f) 5 (nI 2)) (q' := upd q1 5 (nI 2)) (by rw [ec, em]; exact crp_sd hc0 (Or.inr (Or.inr rfl))) (by rw [ec, em]; exact pr_sd hr0 (nI 2))
      refine ⟨_, _, _, _, _, _, _, a, b, cw_enter cw_KL_step (by decide) (Nat.le_of_ble_eq_true rfl) (s1 ?_)⟩
      exact cw_run cw_kL_step cw_z 9 [false] [_, _] [] (And.intro (rfl) (And.intro (Nat.le_of_ble_eq_true rfl) (And.intro ((fun w => w (q6.trans z))) (And.intro (rfl) (And.intro (Nat.le_of_ble_eq_true rfl) (cw_retv cw_kL_step cw_z rfl rfl))))))
    · obtain ⟨f', q', on', ze', re', a1, a2, a3⟩ := pl_learn (l := l) hc0 hr0 hk hp z
      obtain ⟨a, b⟩ := fin (by rw [ec]; exact a1) (by rw [ec]; exact a2)
      refine ⟨_, _, _, _, _, _, _, a, b, cw_enter cw_KL_step (by decide) (Nat.le_of_ble_eq_true rfl) (s1 ?_)⟩
      exact cw_run cw_kL_step cw_z 12 [true] [_] [(_, _)] (And.intro (rfl) (And.intro (Nat.le_of_ble_eq_true rfl) (And.intro ((fun w => z (q6.symm.trans w))) (And.intro (a3) (And.intro (Nat.le_refl _) (cw_retv cw_kL_step cw_z rfl rfl))))))
end PL5
