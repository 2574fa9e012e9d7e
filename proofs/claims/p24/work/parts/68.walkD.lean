/-! p24: the law's walk: all turns, from the beginning to the end -/
section LW
variable {p : Program} {l : Launch} {e : Env} {s : State} {m : MethodId} {below : List Frame} {meth : Method} {c : Code} {D : va_G} {cA : Nat → ClassId} {b : Nat} {Q : State → Prop}
theorem lw_end (hQ : ∀ H ls, W p l e room_1 s m #[Value.ref b] below meth c H [] 600000 7302250 Q (F0 m 453 ls [.int 1])) {kc ks : Nat} (hk : kc ≤ 600000 ∧ ks ≤ 7302250) {lv : cw_LV} {h : cw_H} : lw_G p l e s m below meth c D cA b Q kc ks 453 lv [.int (nI 1)] h := by
  intro ad H locs ls hkp hP hD hS hl
  refine va_forget (fun q hq => hS.2.2 q hq) ?_
  exact W.widen hk.1 hk.2 (hQ H ls)
theorem lw_turns (hC : lw_C p s m meth c D cA b) (hQ : ∀ H ls, W p l e room_1 s m #[Value.ref b] below meth c H [] 600000 7302250 Q (F0 m 453 ls [.int 1])) : ∀ n turn, turn + n = 22 → lw_N p l e s m below meth c D cA b Q turn := by
  intro n
  induction n with
  | zero =>
    intro turn ht u S T H G f L q on ze le re tr fx hok h hr hl
    obtain rfl : turn = 22 := by omega
    have hk : 100 + 5 * 22 ≤ 600000 ∧ 2000 + 101 * 22 ≤ 7302250 := ⟨Nat.le_of_ble_eq_true rfl, Nat.le_of_ble_eq_true rfl⟩
    exact lw_run hC hk 4 [true] [] [] (And.intro (Int32.le_refl _) (lw_end hQ hk))
  | succ n ih =>
    intro turn ht u S T H G f L q on ze le re tr fx hok h hr hl
    have hN := ih (turn + 1) (by omega)
    have h22 : turn < 22 := by omega
    have hk : 100 + 5 * turn ≤ 600000 ∧ 2000 + 101 * turn ≤ 7302250 := ⟨by omega, by omega⟩
    have h0 : ¬ nI 22 ≤ nI turn := nI_ge (by omega) (by omega)
    have kind : ∀ (r : Nat) (x y : Int32), r < 8 → lw_G p l e s m below meth c D cA b Q (100 + 5 * turn) (2000 + 101 * turn) 153 ((11, .int (nI r)) :: (10, .int y) :: (9, .int x) :: (8, .int (nI turn)) :: lw_B) [] (px_h q on ze le re tr (cc_h (nI u) S T H G f (nI 0) L)) := by
      intro r x y hr8
      by_cases c2 : r < 2
      · exact lw_k0 hC h22 hN hok h hr hl c2 x y
      · by_cases c6 : r < 6
        · exact lw_k1 hC h22 hN hok h hr hl (by omega) c6 x y
        · rcases (show r = 6 ∨ r = 7 by omega) with rfl | rfl
          · exact lw_k2 hC h22 hN hok h hr hl x y
          · exact lw_k3 hC h22 hN hok h hr hl x y
    have k131 : ∀ x y : Int32, lw_G p l e s m below meth c D cA b Q (100 + 5 * turn) (2000 + 101 * turn) 131 ((9, .int x) :: (8, .int (nI turn)) :: lw_B) [.int y] (px_h q on ze le re tr (cc_h (nI u) S T H G f (nI 0) L)) := by
      intro x y
      by_cases c6 : turn < 6
      · have a6 : ¬ nI 6 ≤ nI turn := nI_ge (by omega) (by omega)
        exact lw_run hC hk 7 [false] [] [] (And.intro (a6) (kind 0 x y (by omega)))
      · have a6 : nI 6 ≤ nI turn := nI_le (by omega) (by omega)
        obtain ⟨r, hr8, er⟩ := pl_low_nI x (n := 8) (by omega) (by omega)
        have wl := pl_low_ok l (px_h q on ze le re tr (cc_h (nI u) S T H G f (nI 0) L)) x (n := 8) (by omega) (by omega)
        rw [er] at wl
        exact lw_run hC hk 8 [true] [] [(_, _)] (And.intro (a6) (And.intro (wl) (And.intro (Nat.le_refl _) (kind r x y hr8))))
    have k128 : ∀ x : Int32, lw_G p l e s m below meth c D cA b Q (100 + 5 * turn) (2000 + 101 * turn) 128 ((9, .int x) :: (8, .int (nI turn)) :: lw_B) [.int (nI 2 + nI 2 * nI turn), .ref lw_SC] (px_h q on ze le re tr (cc_h (nI u) S T H G f (nI 0) L)) := by
      intro x
      rw [nI_2m turn (by omega), nI_add]
      exact lg_cell (rest := []) hC hk rfl (by omega) (Nat.zero_le _) (fun y => k131 x y)
    have k116 : lw_G p l e s m below meth c D cA b Q (100 + 5 * turn) (2000 + 101 * turn) 116 ((8, .int (nI turn)) :: lw_B) [.int (nI 1 + nI 2 * nI turn), .ref lw_SC] (px_h q on ze le re tr (cc_h (nI u) S T H G f (nI 0) L)) := by
      rw [nI_2m turn (by omega), nI_add]
      exact lg_cell (rest := []) hC hk rfl (by omega) (Nat.zero_le _) (fun x => lw_run hC hk 7 [] [] [] (k128 x))
    exact lw_run hC hk 9 [false] [] [] (And.intro (h0) (k116))
theorem lw_all (hC : lw_C p s m meth c D cA b) (hQ : ∀ H ls, W p l e room_1 s m #[Value.ref b] below meth c H [] 600000 7302250 Q (F0 m 453 ls [.int 1])) : lw_G p l e s m below meth c D cA b Q 0 0 0 [(0, .ref lw_SC)] [] [] :=
  lw_make hC (lw_first hC (lw_turns hC hQ 22 0 rfl))
end LW
