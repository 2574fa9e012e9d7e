/-! p24: the law's walk: the beginning -/
abbrev lw_B : cw_LV := [(7, .ref 5), (6, .ref 4), (5, .ref 3), (4, .ref 2), (3, .ref 1), (2, .ref 0), (1, .ref 6), (0, .ref lw_SC)]
abbrev lw_c0 : cw_H := cc_h (nI 0) cs_z cs_z (fun _ => none) (fun _ => none) (fun _ => 0) (nI 0) []
abbrev lw_r (N : Nat) : cw_E := .inl (0, N, .inl (fun _ => 0))
def lw_pi (k : Nat) : Nat := if k < 15 then k + 6 else if k < 21 then k - 15 else k
def lw_si (k : Nat) : Nat := if k < 6 then k + 15 else if k < 21 then k - 6 else k
theorem lw_pi_ok : ∀ k, k < 21 → (lw_pi k < 21 ∧ lw_si (lw_pi k) = k) ∧ lw_si k < 21 ∧ lw_pi (lw_si k) = k := by decide
theorem lg_wfa {h : cw_H} {N n : Nat} {f : Nat → Int32} (wh : ∀ q ∈ h, cw_wfe n q) : ∀ q ∈ h ++ [.inl (0, N, .inl f)], cw_wfe n q := by
  intro q hq
  rcases List.mem_append.mp hq with z | z
  · exact wh q z
  · rw [List.mem_singleton.mp z]; trivial
abbrev lw_h6 : cw_H := lw_c0 ++ [lw_r 12] ++ [lw_r 61] ++ [lw_r 61] ++ [lw_r 10] ++ [lw_r 10] ++ [lw_r 10]
theorem lw_hm : ∀ k, k < 21 → (px_h (fun _ => 0) (fun _ => 0) (fun _ => 0) (fun _ => 0) (fun _ => 0) (fun _ => 0) lw_c0)[lw_pi k]? = (lw_h6[k]?).map (cw_re lw_pi) := by
  intro k hk
  match k, hk with
  | 0, _ => rfl
  | 1, _ => rfl
  | 2, _ => rfl
  | 3, _ => rfl
  | 4, _ => rfl
  | 5, _ => rfl
  | 6, _ => rfl
  | 7, _ => rfl
  | 8, _ => rfl
  | 9, _ => rfl
  | 10, _ => rfl
  | 11, _ => rfl
  | 12, _ => rfl
  | 13, _ => rfl
  | 14, _ => rfl
  | 15, _ => rfl
  | 16, _ => rfl
  | 17, _ => rfl
  | 18, _ => rfl
  | 19, _ => rfl
  | 20, _ => rfl
  | k + 21, h => exact absurd h (by omega)
section LW
variable {p : Program} {l : Launch} {e : Env} {s : State} {m : MethodId} {below : List Frame} {meth : Method} {c : Code} {D : va_G} {cA : Nat → ClassId} {b : Nat} {Q : State → Prop}
/-- what is made, in the order that the law's text names it -/
theorem lw_make (hC : lw_C p s m meth c D cA b) (K : lw_G p l e s m below meth c D cA b Q 21 442 42 lw_B [] (px_h (fun _ => 0) (fun _ => 0) (fun _ => 0) (fun _ => 0) (fun _ => 0) (fun _ => 0) lw_c0)) : lw_G p l e s m below meth c D cA b Q 0 0 0 [(0, .ref lw_SC)] [] [] := by
  have wf0 : ∀ n, 15 ≤ n → ∀ q ∈ lw_c0, cw_wfe n q := fun n hn => cc_wf hn (fun _ _ h => by cases h) (fun _ _ h => by cases h)
  have k42 : lw_G p l e s m below meth c D cA b Q 21 442 42 [(7, .ref 20), (6, .ref 19), (5, .ref 18), (4, .ref 17), (3, .ref 16), (2, .ref 15), (1, .ref 0), (0, .ref lw_SC)] [] lw_h6 :=
    lg_perm (h2 := px_h (fun _ => 0) (fun _ => 0) (fun _ => 0) (fun _ => 0) (fun _ => 0) (fun _ => 0) lw_c0) lw_pi lw_si rfl (fun k hk => (lw_pi_ok k hk).1) (fun k hk => (lw_pi_ok k hk).2) ⟨rfl, rfl⟩ (fun k q hq => by
      rw [lw_hm k (cw_lt hq), hq]; rfl) (lg_wl (n := 21) rfl (Nat.le_refl _)) (lg_wfa (lg_wfa (lg_wfa (lg_wfa (lg_wfa (lg_wfa (wf0 21 (by omega)))))))) K
  have k38 : lw_G p l e s m below meth c D cA b Q 20 432 38 [(6, .ref 19), (5, .ref 18), (4, .ref 17), (3, .ref 16), (2, .ref 15), (1, .ref 0), (0, .ref lw_SC)] [.int (nI 10)] (lw_c0 ++ [lw_r 12] ++ [lw_r 61] ++ [lw_r 61] ++ [lw_r 10] ++ [lw_r 10]) :=
    lg_newa hC ⟨Nat.le_of_ble_eq_true rfl, Nat.le_of_ble_eq_true rfl⟩ rfl (Nat.le_of_ble_eq_true rfl) (lg_wl (n := 20) rfl (Nat.le_refl _)) (lg_wfa (lg_wfa (lg_wfa (lg_wfa (lg_wfa (wf0 20 (by omega))))))) (Nat.le_of_ble_eq_true rfl) (show lw_G p l e s m below meth c D cA b Q 21 442 40 [(6, .ref 19), (5, .ref 18), (4, .ref 17), (3, .ref 16), (2, .ref 15), (1, .ref 0), (0, .ref lw_SC)] [.ref 20] lw_h6 from (lw_run hC ⟨Nat.le_of_ble_eq_true rfl, Nat.le_of_ble_eq_true rfl⟩ 1 [] [] [] k42))
  have k32 : lw_G p l e s m below meth c D cA b Q 19 422 32 [(5, .ref 18), (4, .ref 17), (3, .ref 16), (2, .ref 15), (1, .ref 0), (0, .ref lw_SC)] [.int (nI 10)] (lw_c0 ++ [lw_r 12] ++ [lw_r 61] ++ [lw_r 61] ++ [lw_r 10]) :=
    lg_newa hC ⟨Nat.le_of_ble_eq_true rfl, Nat.le_of_ble_eq_true rfl⟩ rfl (Nat.le_of_ble_eq_true rfl) (lg_wl (n := 19) rfl (Nat.le_refl _)) (lg_wfa (lg_wfa (lg_wfa (lg_wfa (wf0 19 (by omega)))))) (Nat.le_of_ble_eq_true rfl) (show lw_G p l e s m below meth c D cA b Q 20 432 34 [(5, .ref 18), (4, .ref 17), (3, .ref 16), (2, .ref 15), (1, .ref 0), (0, .ref lw_SC)] [.ref 19] (lw_c0 ++ [lw_r 12] ++ [lw_r 61] ++ [lw_r 61] ++ [lw_r 10] ++ [lw_r 10]) from (lw_run hC ⟨Nat.le_of_ble_eq_true rfl, Nat.le_of_ble_eq_true rfl⟩ 2 [] [] [] k38))
  have k26 : lw_G p l e s m below meth c D cA b Q 18 412 26 [(4, .ref 17), (3, .ref 16), (2, .ref 15), (1, .ref 0), (0, .ref lw_SC)] [.int (nI 10)] (lw_c0 ++ [lw_r 12] ++ [lw_r 61] ++ [lw_r 61]) :=
    lg_newa hC ⟨Nat.le_of_ble_eq_true rfl, Nat.le_of_ble_eq_true rfl⟩ rfl (Nat.le_of_ble_eq_true rfl) (lg_wl (n := 18) rfl (Nat.le_refl _)) (lg_wfa (lg_wfa (lg_wfa (wf0 18 (by omega))))) (Nat.le_of_ble_eq_true rfl) (show lw_G p l e s m below meth c D cA b Q 19 422 28 [(4, .ref 17), (3, .ref 16), (2, .ref 15), (1, .ref 0), (0, .ref lw_SC)] [.ref 18] (lw_c0 ++ [lw_r 12] ++ [lw_r 61] ++ [lw_r 61] ++ [lw_r 10]) from (lw_run hC ⟨Nat.le_of_ble_eq_true rfl, Nat.le_of_ble_eq_true rfl⟩ 2 [] [] [] k32))
  have k20 : lw_G p l e s m below meth c D cA b Q 17 351 20 [(3, .ref 16), (2, .ref 15), (1, .ref 0), (0, .ref lw_SC)] [.int (nI 61)] (lw_c0 ++ [lw_r 12] ++ [lw_r 61]) :=
    lg_newa hC ⟨Nat.le_of_ble_eq_true rfl, Nat.le_of_ble_eq_true rfl⟩ rfl (Nat.le_of_ble_eq_true rfl) (lg_wl (n := 17) rfl (Nat.le_refl _)) (lg_wfa (lg_wfa (wf0 17 (by omega)))) (Nat.le_of_ble_eq_true rfl) (show lw_G p l e s m below meth c D cA b Q 18 412 22 [(3, .ref 16), (2, .ref 15), (1, .ref 0), (0, .ref lw_SC)] [.ref 17] (lw_c0 ++ [lw_r 12] ++ [lw_r 61] ++ [lw_r 61]) from (lw_run hC ⟨Nat.le_of_ble_eq_true rfl, Nat.le_of_ble_eq_true rfl⟩ 2 [] [] [] k26))
  have k15 : lw_G p l e s m below meth c D cA b Q 16 290 15 [(2, .ref 15), (1, .ref 0), (0, .ref lw_SC)] [.int (nI 61)] (lw_c0 ++ [lw_r 12]) :=
    lg_newa hC ⟨Nat.le_of_ble_eq_true rfl, Nat.le_of_ble_eq_true rfl⟩ rfl (Nat.le_of_ble_eq_true rfl) (lg_wl (n := 16) rfl (Nat.le_refl _)) (lg_wfa (wf0 16 (by omega))) (Nat.le_of_ble_eq_true rfl) (show lw_G p l e s m below meth c D cA b Q 17 351 17 [(2, .ref 15), (1, .ref 0), (0, .ref lw_SC)] [.ref 16] (lw_c0 ++ [lw_r 12] ++ [lw_r 61]) from (lw_run hC ⟨Nat.le_of_ble_eq_true rfl, Nat.le_of_ble_eq_true rfl⟩ 2 [] [] [] k20))
  have k10 : lw_G p l e s m below meth c D cA b Q 15 278 10 [(1, .ref 0), (0, .ref lw_SC)] [.int (nI 12)] lw_c0 :=
    lg_newa hC ⟨Nat.le_of_ble_eq_true rfl, Nat.le_of_ble_eq_true rfl⟩ rfl (Nat.le_of_ble_eq_true rfl) (lg_wl (n := 15) rfl (Nat.le_refl _)) (wf0 15 (Nat.le_refl _)) (Nat.le_of_ble_eq_true rfl) (show lw_G p l e s m below meth c D cA b Q 16 290 12 [(1, .ref 0), (0, .ref lw_SC)] [.ref 15] (lw_c0 ++ [lw_r 12]) from (lw_run hC ⟨Nat.le_of_ble_eq_true rfl, Nat.le_of_ble_eq_true rfl⟩ 2 [] [] [] k15))
  have k4 : lw_G p l e s m below meth c D cA b Q 1 6 4 [(0, .ref lw_SC)] [.ref 0, .ref 0] cc_blk :=
    lg_callI (ic := mm_X2_init) (mc' := 14) (ms' := 272) (rs := [.ref 0]) hC ⟨Nat.le_of_ble_eq_true rfl, Nat.le_of_ble_eq_true rfl⟩ rfl rfl rfl (by decide) (Nat.le_of_ble_eq_true rfl) (cc_init l) (Nat.le_of_ble_eq_true rfl) (Nat.le_of_ble_eq_true rfl) (lg_wl (n := 1) rfl (Nat.le_refl _)) (fun v hv => by rw [List.mem_singleton.mp hv]; exact Nat.zero_lt_one) (show lw_G p l e s m below meth c D cA b Q 15 278 7 [(0, .ref lw_SC)] [.ref 0] lw_c0 from (lw_run hC ⟨Nat.le_of_ble_eq_true rfl, Nat.le_of_ble_eq_true rfl⟩ 2 [] [] [] k10))
  refine lg_new (idx := 37) (ci := 2) [.null, .null, .null, .int 0, .null, .null] hC ⟨Nat.le_of_ble_eq_true rfl, Nat.le_of_ble_eq_true rfl⟩ rfl rfl (fun j hj => ?_) (fun _ => rfl) (lg_wl (n := 0) rfl (Nat.le_refl _)) (fun q hq => by cases hq) (Nat.le_of_ble_eq_true rfl) (show lw_G p l e s m below meth c D cA b Q 1 6 3 [(0, .ref lw_SC)] [.ref 0] cc_blk from (lw_run hC ⟨Nat.le_of_ble_eq_true rfl, Nat.le_of_ble_eq_true rfl⟩ 1 [] [] [] k4))
  have hj : j < 6 := hj
  match j, hj with
  | 0, _ => rfl
  | 1, _ => rfl
  | 2, _ => rfl
  | 3, _ => rfl
  | 4, _ => rfl
  | 5, _ => rfl
  | j + 6, h => exact absurd h (by omega)
end LW
