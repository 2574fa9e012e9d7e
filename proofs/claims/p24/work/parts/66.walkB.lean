/-! p24: the law's walk: the first setting; the end of a turn; steps -/
section LW
variable {p : Program} {l : Launch} {e : Env} {s : State} {m : MethodId} {below : List Frame} {meth : Method} {c : Code} {D : va_G} {cA : Nat → ClassId} {b : Nat} {Q : State → Prop}
variable {kc ks : Nat} {q on ze le re tr : Nat → Int32}
/-- a row is filled -/
theorem lw_fill (hC : lw_C p s m meth c D cA b) (hk : kc ≤ 600000 ∧ ks ≤ 7302250) {C : cw_H} (K : ∀ re v, lw_G p l e s m below meth c D cA b Q kc ks 65 ((8, .int v) :: lw_B) [] (px_h q on ze le re tr C)) : ∀ n i re, i + n = 10 → lw_G p l e s m below meth c D cA b Q kc ks 45 ((8, .int (nI i)) :: lw_B) [] (px_h q on ze le re tr C) := by
  intro n
  induction n with
  | zero =>
    intro i re hi
    obtain rfl : i = 10 := by omega
    exact lw_run hC hk 3 [true] [] [] (And.intro (Int32.le_refl _) (K re _))
  | succ n ih =>
    intro i re hi
    have w : lw_G p l e s m below meth c D cA b Q kc ks 45 ((8, .int (nI i + nI 1)) :: lw_B) [] (px_h q on ze le (upd re i (-nI 6)) tr C) := by
      rw [nI_add]; exact ih (i + 1) _ (by omega)
    have h0 : ¬ nI 10 ≤ nI i := nI_ge (by omega) (by omega)
    exact lw_run hC hk 9 [false] [_] [] (And.intro (h0) (And.intro (rfl) (And.intro ((show i < 10 by omega)) (w))))
/-- a turn begins here -/
def lw_N (p : Program) (l : Launch) (e : Env) (s : State) (m : MethodId) (below : List Frame) (meth : Method) (c : Code) (D : va_G) (cA : Nat → ClassId) (b : Nat) (Q : State → Prop) (turn : Nat) : Prop := ∀ (u : Nat) (S T : cs_S) (H G : Nat → Option Nat) (f : Nat → Int32) (L : List cs_S) (q on ze le re tr fx : Nat → Int32), cc_ok u H G L → cr S fx → pr (cs_sp S) S q on ze le re tr → L.length ≤ turn + 1 → lw_G p l e s m below meth c D cA b Q (100 + 5 * turn) (2000 + 101 * turn) 102 ((8, .int (nI turn)) :: lw_B) [] (px_h q on ze le re tr (cc_h (nI u) S T H G f (nI 0) L))
theorem lw_first (hC : lw_C p s m meth c D cA b) (hN : lw_N p l e s m below meth c D cA b Q 0) : lw_G p l e s m below meth c D cA b Q 21 442 42 lw_B [] (px_h (fun _ => 0) (fun _ => 0) (fun _ => 0) (fun _ => 0) (fun _ => 0) (fun _ => 0) lw_c0) := by
  refine lw_run hC ⟨Nat.le_of_ble_eq_true rfl, Nat.le_of_ble_eq_true rfl⟩ 2 [] [] [] (lw_fill hC ⟨Nat.le_of_ble_eq_true rfl, Nat.le_of_ble_eq_true rfl⟩ (fun re v => ?_) 10 0 (fun _ => 0) rfl)
  refine lw_run hC ⟨Nat.le_of_ble_eq_true rfl, Nat.le_of_ble_eq_true rfl⟩ 5 [] [] [] (lg_cell (j := 0) (rest := [.int (nI 4), .int (nI 0), .ref 0]) hC ⟨Nat.le_of_ble_eq_true rfl, Nat.le_of_ble_eq_true rfl⟩ rfl (by omega) (Nat.le_of_ble_eq_true rfl) (fun x => ?_))
  obtain ⟨r, hr, er⟩ := pl_low_nI x (n := 6) (by omega) (by omega)
  have wl6 := pl_low_ok l (px_h (fun _ => 0) (fun _ => 0) (fun _ => 0) (fun _ => 0) re (fun _ => 0) lw_c0) x (n := 6) (by omega) (by omega)
  rw [er] at wl6
  -- the class's answer
  obtain ⟨Z, hZ⟩ : ∃ Z, Z = cs_wth cs_z (nI (4 + r)) := ⟨_, rfl⟩
  have ft : cs_t cs_z = 0 := cs_t_nI (k := 0) rfl (by omega)
  have fk : cs_k cs_z = 4 := cs_k_nI (k := 4) rfl (by omega)
  have fg : cs_g cs_z = 0 := cs_g_nI (k := 0) rfl (by omega)
  have fn : cs_n cs_z = 0 := cs_n_nI (k := 0) rfl (by omega)
  have hBz : cs_Bd cs_z := ⟨⟨by rw [fg]; rfl, by omega⟩, ⟨by rw [ft]; rfl, by omega⟩, ⟨by rw [fn]; rfl, by omega⟩, ⟨by rw [fk]; rfl, by omega⟩⟩
  have hok0 : cc_ok 0 (fun _ => none) (fun _ => none) [] := ⟨by omega, fun _ _ q => (by cases q), fun _ _ q => (by cases q), fun i hi => absurd hi (Nat.not_lt_zero i), fun _ _ _ q => (by cases q), fun _ _ _ q => (by cases q), fun _ _ _ q => (by cases q)⟩
  have egr : cb_gr (cs_all cs_z (cs_t cs_z) 0 (nI 0)) 9 1 (nI 0) = nI 0 := by rw [ft]; decide +kernel
  have cset := cc_set_0 (l := l) (cc_rL_len _ _ _ _) (cc_set0_ok (l := l) (v := nI (4 + r)) (n := 0) (N := cs_z) (T := cs_z) (H := fun _ => none) (G := fun _ => none) (f := fun _ => 0) (pl := nI 0) (L := []) (decide_eq_true ⟨nI_nlt (by omega) (by omega), nI_nlt (by omega) (by omega)⟩) hBz (by rw [egr]; exact nI_nlt (by omega) (by omega)) hok0)
  rw [← hZ] at cset
  obtain ⟨hok', hlen⟩ := cc_ok_rec (N := cs_z) hok0
  have hok2 := hok'
  obtain ⟨-, hH', hG', -⟩ := hok'
  have rdx := px_clsA (q := upd (upd (fun _ => 0) 0 (nI (4 + r))) 1 (nI 10)) (on := fun _ => 0) (ze := fun _ => 0) (le := fun _ => 0) (re := re) (tr := fun _ => 0) cset (cc_rL_len _ _ _ _) (fun _ _ h => by cases h) (fun _ _ h => by cases h) hH' hG'
  -- behind it, both sides stand alike
  have gt : cs_t Z = 0 := cs_t_nI (k := 0) (by rw [hZ]; rfl) (by omega)
  have gk : cs_k Z = 4 + r := cs_k_nI (by rw [hZ]) (by omega)
  have hcr := cr_anew (S := Z) (f := pz_f Z) ⟨⟨by rw [gt, hZ]; rfl, by omega⟩, ⟨by rw [gk, hZ], by omega, by omega⟩, ⟨10, by omega, by omega, by rw [hZ]; rfl⟩, Or.inl (by rw [hZ]; rfl), ⟨rfl, rfl, rfl, rfl⟩, fun k hk => absurd hk (by omega)⟩
  have gg : cs_g (cs_anew Z) = 0 := cs_g_nI (S := cs_anew Z) rfl (by omega)
  have gn : cs_n (cs_anew Z) = 0 := cs_n_nI (S := cs_anew Z) rfl (by omega)
  have gt2 : cs_t (cs_anew Z) = 0 := gt
  have hpr : pr (cs_sp (cs_anew Z)) (cs_anew Z) (upd (upd (fun _ => 0) 0 (nI (4 + r))) 1 (nI 10)) (fun _ => 0) (fun _ => 0) (fun _ => 0) re (fun _ => 0) := by
    refine ⟨⟨by rw [hZ]; rfl, by rw [hZ]; rfl, by rw [hZ]; rfl, by rw [hZ]; rfl, rfl, rfl, ?_, rfl, rfl, rfl⟩, fun i hi => ⟨?_, ?_⟩, fun k hk => ?_, fun k hk => ?_⟩
    · unfold cs_pl; rw [if_pos gg]; rfl
    · show (bt (0 : Int32) i = true ↔ i < 10 ∧ bt (0 : Int32) i = true)
      rw [b_0]
      exact ⟨fun z => (by cases z), fun z => (by cases z.2)⟩
    · show (bt (0 : Int32) i = true ↔ bt (0 : Int32) (i + 10) = true)
      rw [b_0, b_0]
    · rw [gt2, gn] at hk; exact absurd hk (Nat.not_lt_zero k)
    · rw [gg] at hk; exact absurd hk (Nat.not_lt_zero k)
  have k102 := hN _ _ cs_z _ _ (fun _ => 0) _ _ _ _ _ _ _ _ hok2 hcr hpr hlen
  have k93 : lw_G p l e s m below meth c D cA b Q 26 543 93 ((8, .int v) :: lw_B) [.int (nI 4)] (px_h (upd (upd (fun _ => 0) 0 (nI (4 + r))) 1 (nI 10)) (fun _ => 0) (fun _ => 0) (fun _ => 0) re (fun _ => 0) (cc_h (nI (cm_ru 0 + 1)) (cs_anew Z) cs_z (cc_Hr 0 (fun _ => none) []) (fun _ => none) (fun _ => 0) (nI 0) (cc_Lr 0 (fun _ => none) [] cs_z))) :=
    lw_run hC ⟨Nat.le_of_ble_eq_true rfl, Nat.le_of_ble_eq_true rfl⟩ 4 [true] [] [] (And.intro (rfl) (lg_widen (Nat.le_of_ble_eq_true rfl) (Nat.le_of_ble_eq_true rfl) k102))
  have k90 : lw_G p l e s m below meth c D cA b Q 21 442 90 ((8, .int v) :: lw_B) ([.int (nI (4 + r)), .int (nI 0)] ++ [.ref 6]) (px_h (upd (upd (fun _ => 0) 0 (nI (4 + r))) 1 (nI 10)) (fun _ => 0) (fun _ => 0) (fun _ => 0) re (fun _ => 0) lw_c0) :=
    lg_callV (ic := mm_X2_set) (mc' := 5) (ms' := 101) hC ⟨Nat.le_of_ble_eq_true rfl, Nat.le_of_ble_eq_true rfl⟩ rfl rfl rfl (by decide) (show (px_h (upd (upd (fun _ => 0) 0 (nI (4 + r))) 1 (nI 10)) (fun _ => 0) (fun _ => 0) (fun _ => 0) re (fun _ => 0) lw_c0)[6]? = some _ from rfl) rfl (show 2 < 3 by decide) rdx (by rw [px_len, px_len]; exact Nat.add_le_add_left (cc_lel (cc_rL_len _ _ _ _)) 6) (by rw [px_len, cc_len]; exact (show 6 + (15 + 5 * (cc_Lr 0 (fun _ => none) [] cs_z).length) ≤ lw_SC by have hx : (cc_Lr 0 (fun _ => none) [] cs_z).length ≤ 1 := hlen; unfold lw_SC; omega)) (lg_wl (n := 21) rfl (Nat.le_of_ble_eq_true rfl)) k93
  rw [← nI_add 4 r] at k90
  exact lw_run hC ⟨Nat.le_of_ble_eq_true rfl, Nat.le_of_ble_eq_true rfl⟩ 13 [] [_, _, _] [(_, _)] (And.intro (wl6) (And.intro (Nat.le_refl _) (And.intro (rfl) (And.intro (Nat.le_of_ble_eq_true rfl) (And.intro (rfl) (And.intro (Nat.le_of_ble_eq_true rfl) (And.intro (rfl) (And.intro (Nat.le_of_ble_eq_true rfl) (k90)))))))))
section TURN
variable {turn : Nat} {u : Nat} {S T : cs_S} {H G : Nat → Option Nat} {f : Nat → Int32} {L : List cs_S} {fx : Nat → Int32}
/-- the end of a turn: all is asked -/
theorem lw_427 (hC : lw_C p s m meth c D cA b) (hk : kc ≤ 600000 ∧ ks ≤ 7302250) (ec : kc ≤ 100 + 5 * (turn + 1)) (es : ks ≤ 2000 + 101 * (turn + 1)) (hN : lw_N p l e s m below meth c D cA b Q (turn + 1)) (hok : cc_ok u H G L) (h : cr S fx) (hr : pr (cs_sp S) S q on ze le re tr) (hl : L.length ≤ turn + 2) : lw_G p l e s m below meth c D cA b Q kc ks 427 ((8, .int (nI turn)) :: lw_B) [] (px_h q on ze le re tr (cc_h (nI u) S T H G f (nI 0) L)) := by
  have w := hN u S T H G f L q on ze le re tr fx hok h hr hl
  rw [← nI_add turn 1] at w
  exact lw_run hC hk 11 [true] [] [(_, _)] (And.intro (pl_same h.1 hr) (And.intro (Nat.le_refl _) (And.intro ((show ¬ nI 1 = 0 by decide)) (lg_widen ec es w))))
end TURN
/-- many steps of the law's own -/
theorem lw_steps (hC : lw_C p s m meth c D cA b) (hk : kc ≤ 600000 ∧ ks ≤ 7302250) {N : Nat} (hN : N < 2 ^ 31) {C : cw_H} {z : Int32} {S0 : cs_S} (K : ∀ (S : cs_S) (q on ze le re tr fx : Nat → Int32), S = cs_runs N S0 → cr S fx → pr (cs_sp S) S q on ze le re tr → lw_G p l e s m below meth c D cA b Q kc ks 251 ((12, .int (nI N)) :: (8, .int z) :: lw_B) [] (px_h q on ze le re tr C)) : ∀ (n i : Nat) (S : cs_S) (q on ze le re tr fx : Nat → Int32), i + n = N → cs_runs n S = cs_runs N S0 → cr S fx → pr (cs_sp S) S q on ze le re tr → lw_G p l e s m below meth c D cA b Q kc ks 219 ((13, .int (nI i)) :: (12, .int (nI N)) :: (8, .int z) :: lw_B) [] (px_h q on ze le re tr C) := by
  intro n
  induction n with
  | zero =>
    intro i S q on ze le re tr fx hi hS h hr
    obtain rfl : i = N := by omega
    exact lw_run hC hk 3 [true] [] [] (And.intro (Int32.le_refl _) (lg_less [1, 2, 3, 4, 5, 6, 7, 8, 9, 10] rfl (K S q on ze le re tr fx hS h hr)))
  | succ n ih =>
    intro i S q on ze le re tr fx hi hS h hr
    have h0 : ¬ nI N ≤ nI i := nI_ge (by omega) hN
    have q5 : q 5 = cs_sd S := hr.1.2.2.2.2.2.1
    by_cases d : cs_sd S = 0
    · obtain ⟨f', q', on', ze', le', re', tr', h', hr', w⟩ := pl_step (l := l) h hr
      have wx := px_arr (C := C) w
      have k := ih (i + 1) _ q' on' ze' le' re' tr' f' (by omega) (by rw [← hS]; unfold cs_runs; rw [if_pos d]; cases n <;> rfl) h' hr'
      rw [← nI_add i 1] at k
      exact lw_run hC hk 16 [false, false] [_] [(_, _)] (And.intro (h0) (And.intro (rfl) (And.intro (Nat.le_of_ble_eq_true rfl) (And.intro ((show ¬ ¬ q 5 = 0 from fun z => z (q5.trans d))) (And.intro (wx) (And.intro ((show (px_h q' on' ze' le' re' tr' C).length ≤ (px_h q on ze le re tr C).length by rw [px_len, px_len]; exact Nat.le_refl _)) (k)))))))
    · have k := K S q on ze le re tr fx (by rw [← hS]; unfold cs_runs; rw [if_neg d]) h hr
      exact lw_run hC hk 7 [false, true] [_] [] (And.intro (h0) (And.intro (rfl) (And.intro (Nat.le_of_ble_eq_true rfl) (And.intro ((show ¬ q 5 = 0 by rw [q5]; exact d)) (lg_less [1, 2, 3, 4, 5, 6, 7, 8, 9, 10] rfl k)))))
end LW
