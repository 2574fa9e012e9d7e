/-! p24: the law's walk: the turns, each by its kind -/
theorem nI_2m : ∀ t, t ≤ 22 → nI 2 * nI t = nI (2 * t) := by decide +kernel
section LW
variable {p : Program} {l : Launch} {e : Env} {s : State} {m : MethodId} {below : List Frame} {meth : Method} {c : Code} {D : va_G} {cA : Nat → ClassId} {b : Nat} {Q : State → Prop}
variable {turn : Nat} {u : Nat} {S T : cs_S} {H G : Nat → Option Nat} {f : Nat → Int32} {L : List cs_S} {q on ze le re tr fx : Nat → Int32} {y : Int32}
theorem pr_re (hr : pr y S q on ze le re tr) (z : Int32) : pr y (cs_wre S z) (upd q 1 z) on ze le re tr :=
  ⟨⟨hr.1.1, rfl, hr.1.2.2.1, hr.1.2.2.2.1, hr.1.2.2.2.2.1, hr.1.2.2.2.2.2.1, hr.1.2.2.2.2.2.2.1, hr.1.2.2.2.2.2.2.2.1, hr.1.2.2.2.2.2.2.2.2.1, hr.1.2.2.2.2.2.2.2.2.2⟩, hr.2.1, hr.2.2.1, hr.2.2.2⟩
theorem pr_fi (hr : pr y S q on ze le re tr) (z : Int32) : pr y (cs_wfi S z) (upd q 2 z) on ze le re tr :=
  ⟨⟨hr.1.1, hr.1.2.1, rfl, hr.1.2.2.2.1, hr.1.2.2.2.2.1, hr.1.2.2.2.2.2.1, hr.1.2.2.2.2.2.2.1, hr.1.2.2.2.2.2.2.2.1, hr.1.2.2.2.2.2.2.2.2.1, hr.1.2.2.2.2.2.2.2.2.2⟩, hr.2.1, hr.2.2.1, hr.2.2.2⟩
/-- clauses -/
theorem lw_k0 (hC : lw_C p s m meth c D cA b) (ht : turn < 22) (hN : lw_N p l e s m below meth c D cA b Q (turn + 1)) (hok : cc_ok u H G L) (h : cr S fx) (hr : pr (cs_sp S) S q on ze le re tr) (hl : L.length ≤ turn + 1) {r : Nat} (hr2 : r < 2) (x y : Int32) : lw_G p l e s m below meth c D cA b Q (100 + 5 * turn) (2000 + 101 * turn) 153 ((11, .int (nI r)) :: (10, .int y) :: (9, .int x) :: (8, .int (nI turn)) :: lw_B) [] (px_h q on ze le re tr (cc_h (nI u) S T H G f (nI 0) L)) := by
  have hk : 100 + 5 * turn ≤ 600000 ∧ 2000 + 101 * turn ≤ 7302250 := ⟨by omega, by omega⟩
  have hk2 : 100 + 5 * turn + 5 ≤ 600000 ∧ 2000 + 101 * turn + 101 ≤ 7302250 := ⟨by omega, by omega⟩
  have h0 : ¬ nI 2 ≤ nI r := nI_ge (by omega) (by omega)
  obtain ⟨hf, hg, w⟩ := pl_reads (l := l) (T := T) (G := G) (f := f) hok h hr (x >>> (nI 3 &&& 31)) y
  have k179 : lw_G p l e s m below meth c D cA b Q (100 + 5 * turn + 5) (2000 + 101 * turn + 101) 179 ((11, .int (nI r)) :: (10, .int y) :: (9, .int x) :: (8, .int (nI turn)) :: lw_B) [.int (nI 1)] hf := by
    obtain ⟨u', S', H', f', L', q', on', ze', re', fx', rfl, o1, o2, o3, o4, o5⟩ := hg
    have hk := hk2
    exact lw_run hC hk 1 [true] [] [] (And.intro ((show ¬ nI 1 = 0 by decide)) (lg_less [3, 4, 5, 6, 7, 8, 9, 10, 11] rfl (lw_427 hC hk2 (by omega) (by omega) hN o1 o4 o5 (by omega))))
  have hlen : (px_h q on ze le re tr (cc_h (nI u) S T H G f (nI 0) L)).length ≤ hf.length ∧ hf.length ≤ lw_SC := by
    obtain ⟨u', S', H', f', L', q', on', ze', re', fx', rfl, o1, o2, o3, o4, o5⟩ := hg
    rw [px_len, px_len, cc_len, cc_len]
    unfold lw_SC
    omega
  exact lw_run hC hk 14 [false] [] [] (And.intro (h0) (lg_callS (ic := mm_L_reads) (mc' := 5) (ms' := 101) hC hk2 rfl rfl rfl (by decide) w hlen.1 hlen.2 (lg_wl (n := 21) rfl (by rw [px_len, cc_len]; omega)) k179))
/-- steps -/
theorem lw_k1 (hC : lw_C p s m meth c D cA b) (ht : turn < 22) (hN : lw_N p l e s m below meth c D cA b Q (turn + 1)) (hok : cc_ok u H G L) (h : cr S fx) (hr : pr (cs_sp S) S q on ze le re tr) (hl : L.length ≤ turn + 1) {r : Nat} (h2 : 2 ≤ r) (h6 : r < 6) (x y : Int32) : lw_G p l e s m below meth c D cA b Q (100 + 5 * turn) (2000 + 101 * turn) 153 ((11, .int (nI r)) :: (10, .int y) :: (9, .int x) :: (8, .int (nI turn)) :: lw_B) [] (px_h q on ze le re tr (cc_h (nI u) S T H G f (nI 0) L)) := by
  have hk : 100 + 5 * turn ≤ 600000 ∧ 2000 + 101 * turn ≤ 7302250 := ⟨by omega, by omega⟩
  have hk2 : 100 + 5 * turn + 5 ≤ 600000 ∧ 2000 + 101 * turn + 101 ≤ 7302250 := ⟨by omega, by omega⟩
  have a0 : nI 2 ≤ nI r := nI_le (by omega) (by omega)
  have a1 : ¬ nI 6 ≤ nI r := nI_ge (by omega) (by omega)
  have main : ∀ N, 1 ≤ N → N ≤ 500 → lw_G p l e s m below meth c D cA b Q (100 + 5 * turn) (2000 + 101 * turn) 219 ((13, .int (nI 0)) :: (12, .int (nI N)) :: (8, .int (nI turn)) :: lw_B) [] (px_h q on ze le re tr (cc_h (nI u) S T H G f (nI 0) L)) := by
    intro N n1 n5
    refine lw_steps hC hk (by omega) (S0 := S) (fun S' q' on' ze' le' re' tr' fx' eS h' hr' => ?_) N 0 S q on ze le re tr fx (by omega) rfl h hr
    subst eS
    obtain ⟨hok', hlen⟩ := cc_ok_rec (N := S) hok
    have hok2 := hok'
    obtain ⟨-, hH', hG', -⟩ := hok'
    have hoka := hok
    obtain ⟨-, hH, hG, -⟩ := hoka
    have cst := cc_step_ok (l := l) (T := T) (f := f) (pl := nI 0) (k := N) (decide_eq_true ⟨nI_nlt (by omega) (by omega), nI_nlt (by omega) (by omega)⟩) (by omega) h.1.1.1 hok
    have rdx := px_clsA (q := q') (on := on') (ze := ze') (le := le') (re := re') (tr := tr') cst (cc_rL_len _ _ _ _) hH hG hH' hG'
    have q5 : cs_sd (cs_runs N S) = q' 5 := hr'.1.2.2.2.2.2.1.symm
    have k257 : lw_G p l e s m below meth c D cA b Q (100 + 5 * turn + 5) (2000 + 101 * turn + 101) 257 ((12, .int (nI N)) :: (8, .int (nI turn)) :: lw_B) [.int (cs_sd (cs_runs N S))] (px_h q' on' ze' le' re' tr' (cc_h (nI (cm_ru u + 1)) (cs_runs N S) T (cc_Hr u H L) G f (nI 0) (cc_Lr u H L S))) := by
      have hk := hk2
      exact lw_run hC hk 5 [true] [_] [] (And.intro (rfl) (And.intro (Nat.le_of_ble_eq_true rfl) (And.intro (q5) (lg_less [1, 2, 3, 4, 5, 6, 7, 8, 9] rfl (lw_427 hC hk2 (by omega) (by omega) hN hok2 h' hr' (by omega))))))
    exact lw_run hC hk 2 [] [] [] (lg_callV (st := [.int (nI N)]) (a := 6) (ic := mm_X2_step) (mc' := 5) (ms' := 101) hC hk2 rfl rfl rfl (by decide) (show (px_h q' on' ze' le' re' tr' (cc_h (nI u) S T H G f (nI 0) L))[6]? = some _ from rfl) rfl (show 2 < 3 by decide) rdx (by rw [px_len, px_len]; exact Nat.add_le_add_left (cc_lel (cc_rL_len _ _ _ _)) 6) (by rw [px_len, cc_len]; exact (show 6 + (15 + 5 * (cc_Lr u H L S).length) ≤ lw_SC by unfold lw_SC; omega)) (lg_wl (n := 21) rfl (by rw [px_len, cc_len]; omega)) k257)
  by_cases c5 : r < 5
  · have a5 : ¬ nI 5 ≤ nI r := nI_ge (by omega) (by omega)
    obtain ⟨r9, hr9, er9⟩ := pl_low_nI (x >>> (nI 3 &&& 31)) (n := 9) (by omega) (by omega)
    have wl := pl_low_ok l (px_h q on ze le re tr (cc_h (nI u) S T H G f (nI 0) L)) (x >>> (nI 3 &&& 31)) (n := 9) (by omega) (by omega)
    rw [er9] at wl
    have k := main (1 + r9) (by omega) (by omega)
    rw [← nI_add 1 r9] at k
    exact lw_run hC hk 20 [true, false, false] [] [(_, _)] (And.intro (a0) (And.intro (a1) (And.intro (a5) (And.intro (wl) (And.intro (Nat.le_refl _) (lg_less [0, 1, 5, 6, 7, 8, 9, 10, 11, 12, 13] rfl k))))))
  · have a5 : nI 5 ≤ nI r := nI_le (by omega) (by omega)
    obtain ⟨r9, hr9, er9⟩ := pl_low_nI (x >>> (nI 3 &&& 31)) (n := 200) (by omega) (by omega)
    have wl := pl_low_ok l (px_h q on ze le re tr (cc_h (nI u) S T H G f (nI 0) L)) (x >>> (nI 3 &&& 31)) (n := 200) (by omega) (by omega)
    rw [er9] at wl
    have k := main (1 + r9) (by omega) (by omega)
    rw [← nI_add 1 r9] at k
    exact lw_run hC hk 19 [true, false, true] [] [(_, _)] (And.intro (a0) (And.intro (a1) (And.intro (a5) (And.intro (wl) (And.intro (Nat.le_refl _) (lg_less [0, 1, 5, 6, 7, 8, 9, 10, 11, 12, 13] rfl k))))))
/-- back -/
theorem lw_k2 (hC : lw_C p s m meth c D cA b) (ht : turn < 22) (hN : lw_N p l e s m below meth c D cA b Q (turn + 1)) (hok : cc_ok u H G L) (h : cr S fx) (hr : pr (cs_sp S) S q on ze le re tr) (hl : L.length ≤ turn + 1) (x y : Int32) : lw_G p l e s m below meth c D cA b Q (100 + 5 * turn) (2000 + 101 * turn) 153 ((11, .int (nI 6)) :: (10, .int y) :: (9, .int x) :: (8, .int (nI turn)) :: lw_B) [] (px_h q on ze le re tr (cc_h (nI u) S T H G f (nI 0) L)) := by
  have hk : 100 + 5 * turn ≤ 600000 ∧ 2000 + 101 * turn ≤ 7302250 := ⟨by omega, by omega⟩
  have hk2 : 100 + 5 * turn + 5 ≤ 600000 ∧ 2000 + 101 * turn + 101 ≤ 7302250 := ⟨by omega, by omega⟩
  have a0 : nI 2 ≤ nI 6 := by decide
  have a1 : nI 6 ≤ nI 6 := by decide
  have g9 := cr_g9 h.1
  have hpl := cr_pl h.1
  have hpv := cr_pv_le h.1
  have q6 : q 6 = nI (cs_pv S (cs_g S)) := hr.1.2.2.2.2.2.2.1.trans hpl
  have q5 : q 5 = cs_sd S := hr.1.2.2.2.2.2.1
  obtain ⟨pv, epv⟩ : ∃ pv, pv = cs_pv S (cs_g S) := ⟨_, rfl⟩
  have e7 : q 6 + nI 1 = nI (pv + 1) := by rw [q6, nI_add, epv]
  obtain ⟨v, hv, ev⟩ := pl_low_nI (x >>> (nI 3 &&& 31)) (n := pv + 1) (by omega) (by omega)
  have wl := pl_low_ok l (px_h q on ze le re tr (cc_h (nI u) S T H G f (nI 0) L)) (x >>> (nI 3 &&& 31)) (n := pv + 1) (by omega) (by omega)
  rw [ev, ← e7] at wl
  have hm : v ≤ cs_pv S (cs_g S) := by omega
  have cb : cb_wi (nI v) (nI 0) (cs_pl S (cs_g S)) = true := by rw [hpl]; exact decide_eq_true ⟨nI_nlt (by omega) (by omega), nI_nlt hm (by omega)⟩
  obtain ⟨hok', hlen⟩ := cc_ok_rec (N := S) hok
  have hok2 := hok'
  obtain ⟨-, hH', hG', -⟩ := hok'
  have hoka := hok
  obtain ⟨-, hH, hG, -⟩ := hoka
  by_cases d : cs_sd S = nI 2
  · have rdx := px_clsA (q := q) (on := on) (ze := ze) (le := le) (re := re) (tr := tr) (cc_back_never (l := l) (u := nI u) (T := T) (H := H) (G := G) (f := f) (pl := nI 0) (L := L) h.1.1.1 cb d) (Nat.le_refl _) hH hG hH hG
    have e5 : upd q 5 (nI 2) = q := by
      funext j
      by_cases ej : j = 5
      · rw [ej, pk_us, q5, d]
      · exact pk_un ej
    have k := lw_427 (T := T) (f := f) hC hk2 (by omega) (by omega) hN hok h hr (by omega)
    rw [← e5] at k
    have k327 : lw_G p l e s m below meth c D cA b Q (100 + 5 * turn + 5) (2000 + 101 * turn + 101) 327 ((13, .int (nI 0)) :: (12, .int (nI v)) :: (11, .int (nI 6)) :: (10, .int y) :: (9, .int x) :: (8, .int (nI turn)) :: lw_B) [.int (-nI 5)] (px_h q on ze le re tr (cc_h (nI u) S T H G f (nI 0) L)) := by
      have hk := hk2
      exact lw_run hC hk 11 [true, true, true] [_] [] (And.intro (rfl) (And.intro (rfl) (And.intro (rfl) (And.intro (rfl) (And.intro (Nat.le_of_ble_eq_true rfl) (lg_less [5, 6, 7, 8, 9, 10, 11, 12, 13] rfl k))))))
    have k324 : lw_G p l e s m below meth c D cA b Q (100 + 5 * turn) (2000 + 101 * turn) 324 ((13, .int (nI 0)) :: (12, .int (nI v)) :: (11, .int (nI 6)) :: (10, .int y) :: (9, .int x) :: (8, .int (nI turn)) :: lw_B) ([.int (nI v)] ++ [.ref 6]) (px_h q on ze le re tr (cc_h (nI u) S T H G f (nI 0) L)) :=
      lg_callV (st := [.int (nI v)]) (a := 6) (ic := mm_X2_back) (mc' := 5) (ms' := 101) hC hk2 rfl rfl rfl (by decide) (show (px_h q on ze le re tr (cc_h (nI u) S T H G f (nI 0) L))[6]? = some _ from rfl) rfl (show 2 < 3 by decide) rdx (Nat.le_refl _) (by rw [px_len, cc_len]; unfold lw_SC; omega) (lg_wl (n := 21) rfl (by rw [px_len, cc_len]; omega)) k327
    exact lw_run hC hk 30 [true, true, false, true, true] [_, _] [(_, _)] (And.intro (a0) (And.intro (a1) (And.intro ((show ¬ ¬ nI 6 = nI 6 from fun z => z rfl)) (And.intro (rfl) (And.intro (Nat.le_of_ble_eq_true rfl) (And.intro (wl) (And.intro (Nat.le_refl _) (And.intro (rfl) (And.intro (Nat.le_of_ble_eq_true rfl) (And.intro ((show q 5 = nI 2 by rw [q5]; exact d)) (And.intro (rfl) (k324))))))))))))
  · obtain ⟨q', re', F, w⟩ := pl_back (l := l) (q := q) (on := on) (ze := ze) (le := le) (re := re) (tr := tr) (L := nI v) (x := fun k => cs_s S k % 10) (g := cs_g S) g9 (fun k hk => pr_x h.1 hr k hk) (pr_g7 h.1 hr)
    have wx := px_arr (C := cc_h (nI u) S T H G f (nI 0) L) w
    obtain ⟨g1, -⟩ := cr_gb h hm
    have hr1 := pr_gb h.1 hr hm (g1.2.1.2.2.2.2.2.2.1).symm F
    have e7' : cs_gi (cs_gb S (nI v)) = q' 7 := hr1.1.2.2.2.2.2.2.2.1.symm
    have rdx := px_clsA (q := q') (on := on) (ze := ze) (le := le) (re := re') (tr := tr) (cc_back_ok (l := l) (T := T) (f := f) (pl := nI 0) h.1.1.1 cb d hok) (cc_rL_len _ _ _ _) hH hG hH' hG'
    have k := lw_427 (T := T) (f := f) (S := cs_wsd (cs_gb S (nI v)) (nI 0)) hC hk2 (by omega) (by omega) hN hok2 (show cr _ _ from crp_sd g1 (Or.inl rfl)) (pr_sd hr1 (nI 0)) (by omega)
    have k327 : lw_G p l e s m below meth c D cA b Q (100 + 5 * turn + 5) (2000 + 101 * turn + 101) 327 ((13, .int (nI 1)) :: (12, .int (nI v)) :: (11, .int (nI 6)) :: (10, .int y) :: (9, .int x) :: (8, .int (nI turn)) :: lw_B) [.int (cs_gi (cs_gb S (nI v)))] (px_h q' on ze le re' tr (cc_h (nI (cm_ru u + 1)) (cs_wsd (cs_gb S (nI v)) (nI 0)) T (cc_Hr u H L) G f (nI 0) (cc_Lr u H L S))) := by
      have hk := hk2
      exact lw_run hC hk 15 [false, true, false] [_, _] [] (And.intro ((show ¬ nI 1 = 0 by decide)) (And.intro (rfl) (And.intro (Nat.le_of_ble_eq_true rfl) (And.intro (e7') (And.intro ((show ¬ nI 1 = 0 by decide)) (And.intro (rfl) (And.intro (Nat.le_of_ble_eq_true rfl) (lg_less [5, 6, 7, 8, 9, 10, 11, 12, 13] rfl k))))))))
    have k324 : lw_G p l e s m below meth c D cA b Q (100 + 5 * turn) (2000 + 101 * turn) 324 ((13, .int (nI 1)) :: (12, .int (nI v)) :: (11, .int (nI 6)) :: (10, .int y) :: (9, .int x) :: (8, .int (nI turn)) :: lw_B) ([.int (nI v)] ++ [.ref 6]) (px_h q' on ze le re' tr (cc_h (nI u) S T H G f (nI 0) L)) :=
      lg_callV (st := [.int (nI v)]) (a := 6) (ic := mm_X2_back) (mc' := 5) (ms' := 101) hC hk2 rfl rfl rfl (by decide) (show (px_h q' on ze le re' tr (cc_h (nI u) S T H G f (nI 0) L))[6]? = some _ from rfl) rfl (show 2 < 3 by decide) rdx (by rw [px_len, px_len]; exact Nat.add_le_add_left (cc_lel (cc_rL_len _ _ _ _)) 6) (by rw [px_len, cc_len]; exact (show 6 + (15 + 5 * (cc_Lr u H L S).length) ≤ lw_SC by unfold lw_SC; omega)) (lg_wl (n := 21) rfl (by rw [px_len, cc_len]; omega)) k327
    exact lw_run hC hk 37 [true, true, false, false, false] [_, _] [(_, _), (_, _)] (And.intro (a0) (And.intro (a1) (And.intro ((show ¬ ¬ nI 6 = nI 6 from fun z => z rfl)) (And.intro (rfl) (And.intro (Nat.le_of_ble_eq_true rfl) (And.intro (wl) (And.intro (Nat.le_refl _) (And.intro (rfl) (And.intro (Nat.le_of_ble_eq_true rfl) (And.intro ((show ¬ q 5 = nI 2 by rw [q5]; exact d)) (And.intro ((show ¬ nI 1 = 0 by decide)) (And.intro (wx) (And.intro ((show (px_h q' on ze le re' tr (cc_h (nI u) S T H G f (nI 0) L)).length ≤ (px_h q on ze le re tr (cc_h (nI u) S T H G f (nI 0) L)).length by rw [px_len, px_len]; exact Nat.le_refl _)) (k324))))))))))))))
/-- settings -/
theorem lw_k3 (hC : lw_C p s m meth c D cA b) (ht : turn < 22) (hN : lw_N p l e s m below meth c D cA b Q (turn + 1)) (hok : cc_ok u H G L) (h : cr S fx) (hr : pr (cs_sp S) S q on ze le re tr) (hl : L.length ≤ turn + 1) (x y : Int32) : lw_G p l e s m below meth c D cA b Q (100 + 5 * turn) (2000 + 101 * turn) 153 ((11, .int (nI 7)) :: (10, .int y) :: (9, .int x) :: (8, .int (nI turn)) :: lw_B) [] (px_h q on ze le re tr (cc_h (nI u) S T H G f (nI 0) L)) := by
  have hk : 100 + 5 * turn ≤ 600000 ∧ 2000 + 101 * turn ≤ 7302250 := ⟨by omega, by omega⟩
  have hk2 : 100 + 5 * turn + 5 ≤ 600000 ∧ 2000 + 101 * turn + 101 ≤ 7302250 := ⟨by omega, by omega⟩
  have a0 : nI 2 ≤ nI 7 := by decide
  have a1 : nI 6 ≤ nI 7 := by decide
  have a2 : ¬ nI 7 = nI 6 := by decide
  obtain ⟨hok', hlen⟩ := cc_ok_rec (N := S) hok
  have hok2 := hok'
  obtain ⟨-, hH', hG', -⟩ := hok'
  have hoka := hok
  obtain ⟨-, hH, hG, -⟩ := hoka
  obtain ⟨r1, hr1, er1⟩ := pl_low_nI (x >>> (nI 3 &&& 31)) (n := 2) (by omega) (by omega)
  have wl1 := pl_low_ok l (px_h q on ze le re tr (cc_h (nI u) S T H G f (nI 0) L)) (x >>> (nI 3 &&& 31)) (n := 2) (by omega) (by omega)
  rw [er1] at wl1
  rcases (show r1 = 0 ∨ r1 = 1 by omega) with rfl | rfl
  · obtain ⟨r2, hr2, er2⟩ := pl_low_nI (x >>> (nI 5 &&& 31)) (n := 20) (by omega) (by omega)
    have wl2 := pl_low_ok l (px_h q on ze le re tr (cc_h (nI u) S T H G f (nI 0) L)) (x >>> (nI 5 &&& 31)) (n := 20) (by omega) (by omega)
    rw [er2] at wl2
    have cst := cc_set_1 (cc_rL_len _ _ _ _) (cc_set1_ok (l := l) (N := S) (T := T) (f := f) (pl := nI 0) (v := nI (1 + r2)) (decide_eq_true ⟨nI_nlt (by omega) (by omega), nI_nlt (by omega) (by omega)⟩) hok)
    have rdx := px_clsA (q := q) (on := on) (ze := ze) (le := le) (re := re) (tr := tr) cst (cc_rL_len _ _ _ _) hH hG hH' hG'
    have k := lw_427 (T := T) (f := f) (S := cs_wre S (nI (1 + r2))) hC hk2 (by omega) (by omega) hN hok2 (show cr _ _ from crp_re h (r := 1 + r2) (by omega) (by omega)) (pr_re hr (nI (1 + r2))) (by omega)
    have q1 : cs_re S = q 1 := hr.1.2.1.symm
    have k409 : ∀ w, w = nI 1 → lw_G p l e s m below meth c D cA b Q (100 + 5 * turn) (2000 + 101 * turn) 409 ((13, .int (nI (1 + r2))) :: (12, .int w) :: (11, .int (nI 7)) :: (10, .int y) :: (9, .int x) :: (8, .int (nI turn)) :: lw_B) ([.int (nI (1 + r2)), .int w] ++ [.ref 6]) (px_h q on ze le re tr (cc_h (nI u) S T H G f (nI 0) L)) := by
      intro w hw
      subst hw
      have k412 : lw_G p l e s m below meth c D cA b Q (100 + 5 * turn + 5) (2000 + 101 * turn + 101) 412 ((13, .int (nI (1 + r2))) :: (12, .int (nI 1)) :: (11, .int (nI 7)) :: (10, .int y) :: (9, .int x) :: (8, .int (nI turn)) :: lw_B) [.int (cs_re S)] (px_h q on ze le re tr (cc_h (nI (cm_ru u + 1)) (cs_wre S (nI (1 + r2))) T (cc_Hr u H L) G f (nI 0) (cc_Lr u H L S))) := by
        have hk := hk2
        exact lw_run hC hk 8 [true] [_, _] [] (And.intro (rfl) (And.intro (Nat.le_of_ble_eq_true rfl) (And.intro (q1) (And.intro (rfl) (And.intro (Nat.le_of_ble_eq_true rfl) (lg_less [5, 6, 7, 8, 9, 10, 11, 12, 13] rfl k))))))
      exact lg_callV (ic := mm_X2_set) (mc' := 5) (ms' := 101) hC hk2 rfl rfl rfl (by decide) (show (px_h q on ze le re tr (cc_h (nI u) S T H G f (nI 0) L))[6]? = some _ from rfl) rfl (show 2 < 3 by decide) rdx (by rw [px_len, px_len]; exact Nat.add_le_add_left (cc_lel (cc_rL_len _ _ _ _)) 6) (by rw [px_len, cc_len]; exact (show 6 + (15 + 5 * (cc_Lr u H L S).length) ≤ lw_SC by unfold lw_SC; omega)) (lg_wl (n := 21) rfl (by rw [px_len, cc_len]; omega)) k412
    have k2 := k409 (nI 1 + nI 0) (by decide)
    rw [← nI_add 1 r2] at k2
    exact lw_run hC hk 32 [true, true, true, false] [] [(_, _), (_, _)] (And.intro (a0) (And.intro (a1) (And.intro (a2) (And.intro (wl1) (And.intro (Nat.le_refl _) (And.intro ((show ¬ ¬ nI 1 + nI 0 = nI 1 from fun z => z (by decide))) (And.intro (wl2) (And.intro (Nat.le_refl _) (k2)))))))))
  · obtain ⟨r2, hr2, er2⟩ := pl_low_nI (x >>> (nI 5 &&& 31)) (n := 2) (by omega) (by omega)
    have wl2 := pl_low_ok l (px_h q on ze le re tr (cc_h (nI u) S T H G f (nI 0) L)) (x >>> (nI 5 &&& 31)) (n := 2) (by omega) (by omega)
    rw [er2] at wl2
    have hv : nI r2 = nI 0 ∨ nI r2 = nI 1 := by
      rcases (show r2 = 0 ∨ r2 = 1 by omega) with rfl | rfl
      · exact Or.inl rfl
      · exact Or.inr rfl
    have cst := cc_set_2 (cc_rL_len _ _ _ _) (cc_set2_ok (l := l) (N := S) (T := T) (f := f) (pl := nI 0) (v := nI r2) hv hok)
    have rdx := px_clsA (q := q) (on := on) (ze := ze) (le := le) (re := re) (tr := tr) cst (cc_rL_len _ _ _ _) hH hG hH' hG'
    have k := lw_427 (T := T) (f := f) (S := cs_wfi S (nI r2)) hC hk2 (by omega) (by omega) hN hok2 (show cr _ _ from crp_fi h hv) (pr_fi hr (nI r2)) (by omega)
    have q2 : cs_fi S = q 2 := hr.1.2.2.1.symm
    have k409 : ∀ w, w = nI 2 → lw_G p l e s m below meth c D cA b Q (100 + 5 * turn) (2000 + 101 * turn) 409 ((13, .int (nI r2)) :: (12, .int w) :: (11, .int (nI 7)) :: (10, .int y) :: (9, .int x) :: (8, .int (nI turn)) :: lw_B) ([.int (nI r2), .int w] ++ [.ref 6]) (px_h q on ze le re tr (cc_h (nI u) S T H G f (nI 0) L)) := by
      intro w hw
      subst hw
      have k412 : lw_G p l e s m below meth c D cA b Q (100 + 5 * turn + 5) (2000 + 101 * turn + 101) 412 ((13, .int (nI r2)) :: (12, .int (nI 2)) :: (11, .int (nI 7)) :: (10, .int y) :: (9, .int x) :: (8, .int (nI turn)) :: lw_B) [.int (cs_fi S)] (px_h q on ze le re tr (cc_h (nI (cm_ru u + 1)) (cs_wfi S (nI r2)) T (cc_Hr u H L) G f (nI 0) (cc_Lr u H L S))) := by
        have hk := hk2
        exact lw_run hC hk 8 [true] [_, _] [] (And.intro (rfl) (And.intro (Nat.le_of_ble_eq_true rfl) (And.intro (q2) (And.intro (rfl) (And.intro (Nat.le_of_ble_eq_true rfl) (lg_less [5, 6, 7, 8, 9, 10, 11, 12, 13] rfl k))))))
      exact lg_callV (ic := mm_X2_set) (mc' := 5) (ms' := 101) hC hk2 rfl rfl rfl (by decide) (show (px_h q on ze le re tr (cc_h (nI u) S T H G f (nI 0) L))[6]? = some _ from rfl) rfl (show 2 < 3 by decide) rdx (by rw [px_len, px_len]; exact Nat.add_le_add_left (cc_lel (cc_rL_len _ _ _ _)) 6) (by rw [px_len, cc_len]; exact (show 6 + (15 + 5 * (cc_Lr u H L S).length) ≤ lw_SC by unfold lw_SC; omega)) (lg_wl (n := 21) rfl (by rw [px_len, cc_len]; omega)) k412
    have k2 := k409 (nI 1 + nI 1) (by decide)
    exact lw_run hC hk 29 [true, true, true, true] [] [(_, _), (_, _)] (And.intro (a0) (And.intro (a1) (And.intro (a2) (And.intro (wl1) (And.intro (Nat.le_refl _) (And.intro ((show ¬ nI 1 + nI 1 = nI 1 by decide)) (And.intro (wl2) (And.intro (Nat.le_refl _) (k2)))))))))
end LW
