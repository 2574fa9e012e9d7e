/-! static methods of the class -/
theorem cs_setOf (l : Launch) (h : cw_H) (x : Int32) : cw_M l mm_X2_setOf 0 0 [.int x] h (some (.int (nI 1 <<< (x &&& 31)))) h := by
  refine cw_enter cw_KX2_setOf (by decide) (Nat.le_of_ble_eq_true rfl) ?_
  exact cw_run cw_kX2_setOf cw_z 3 [] [] [] (cw_reti cw_kX2_setOf cw_z rfl rfl)
theorem cs_thingOf (l : Launch) (h : cw_H) (x : Int32) : cw_M l mm_X2_thingOf 0 0 [.int x] h (some (.int (if x < nI 10 then x else x - nI 10))) h := by
  refine cw_enter cw_KX2_thingOf (by decide) (Nat.le_of_ble_eq_true rfl) ?_
  by_cases c : x < nI 10
  · rw [if_pos c]
    exact cw_run cw_kX2_thingOf cw_z 4 [true] [] [] (And.intro (c) (cw_reti cw_kX2_thingOf cw_z rfl rfl))
  · rw [if_neg c]
    exact cw_run cw_kX2_thingOf cw_z 7 [false] [] [] (And.intro (c) (cw_reti cw_kX2_thingOf cw_z rfl rfl))
theorem cs_opposite (l : Launch) (h : cw_H) (x : Int32) : cw_M l mm_X2_opposite 0 0 [.int x] h (some (.int (if x < nI 10 then x + nI 10 else x - nI 10))) h := by
  refine cw_enter cw_KX2_opposite (by decide) (Nat.le_of_ble_eq_true rfl) ?_
  by_cases c : x < nI 10
  · rw [if_pos c]
    exact cw_run cw_kX2_opposite cw_z 6 [true] [] [] (And.intro (c) (cw_reti cw_kX2_opposite cw_z rfl rfl))
  · rw [if_neg c]
    exact cw_run cw_kX2_opposite cw_z 7 [false] [] [] (And.intro (c) (cw_reti cw_kX2_opposite cw_z rfl rfl))
theorem cs_has (l : Launch) (h : cw_H) (x : Int32) {k : Nat} (hk : k < 32) : cw_M l mm_X2_has 0 0 [.int x, .int (nI k)] h (some (.int (cb_n (bt x k)))) h := by
  refine cw_enter cw_KX2_has (by decide) (Nat.le_of_ble_eq_true rfl) ?_
  cases b : bt x k with
  | false => exact cw_run cw_kX2_has cw_z 6 [true] [] [(_, _)] (And.intro (cs_setOf l h (nI k)) (And.intro (Nat.le_refl _) (And.intro ((cb_has hk).mpr b) (cw_retz cw_kX2_has cw_z rfl rfl (Or.inl rfl)))))
  | true => exact cw_run cw_kX2_has cw_z 7 [false] [] [(_, _)] (And.intro (cs_setOf l h (nI k)) (And.intro (Nat.le_refl _) (And.intro (fun q => by rw [(cb_has hk).mp q] at b; cases b) (cw_retz cw_kX2_has cw_z rfl rfl (Or.inr rfl)))))
/-- the opposite signs of a set -/
def cb_op (x : Int32) : Int32 := ((x <<< (nI 10 &&& 31)) ||| (x >>> (nI 10 &&& 31))) &&& 1047550
theorem cs_opposites (l : Launch) (h : cw_H) (x : Int32) : cw_M l mm_X2_opposites 0 0 [.int x] h (some (.int (cb_op x))) h := by
  refine cw_enter cw_KX2_opposites (by decide) (Nat.le_of_ble_eq_true rfl) ?_
  exact cw_run cw_kX2_opposites cw_z 9 [] [] [] (cw_reti cw_kX2_opposites cw_z rfl rfl)
/-- the sign at a place, by the things from t on, n of them, behind ps passed ones -/
def cb_sio (x p : Int32) : Nat → Nat → Int32 → Int32
  | 0, _, _ => -nI 6
  | n + 1, t, ps => if bt (x ||| cb_op x) t then (if ps + nI 1 = p then (if bt x t then nI t else nI (t + 10)) else cb_sio x p n (t + 1) (ps + nI 1)) else cb_sio x p n (t + 1) ps
theorem cs_oppLo (l : Launch) (h : cw_H) {t : Nat} (ht : t < 10) : cw_M l mm_X2_opposite 0 0 [.int (nI t)] h (some (.int (nI (t + 10)))) h := by
  have := cs_opposite l h (nI t)
  rw [if_pos (nI_lt ht (by omega)), nI_add] at this
  exact this
theorem cs_sio_loop (l : Launch) (h : cw_H) (x p : Int32) : ∀ (n t : Nat) (ps : Int32), t + n = 10 → cw_W l mm_X2_signInOrder 0 0 h (some (.int (cb_sio x p n t ps))) h 0 0 4 [(3, .int (nI t)), (2, .int ps), (0, .int x), (1, .int p)] [] h := by
  intro n
  induction n with
  | zero =>
    intro t ps ht
    obtain rfl : t = 10 := by omega
    exact cw_run cw_kX2_signInOrder cw_z 4 [true] [] [] (And.intro ((show nI 9 < nI 10 from nI_lt (by omega) (by omega))) (cw_reti cw_kX2_signInOrder cw_z rfl rfl))
  | succ n ih =>
    intro t ps ht
    have hg : ¬ nI 9 < nI t := nI_nlt (by omega) (by omega)
    have ih1 := ih (t + 1) ps (by omega)
    have ih2 := ih (t + 1) (ps + nI 1) (by omega)
    rw [← nI_add t 1] at ih1 ih2
    cases b : bt (x ||| cb_op x) t with
    | false =>
      rw [show cb_sio x p (n + 1) t ps = cb_sio x p n (t + 1) ps by simp [cb_sio, b]]
      exact cw_run cw_kX2_signInOrder cw_z 12 [false, true] [] [(_, _), (_, _)] (And.intro (hg) (And.intro (cs_opposites l h x) (And.intro (Nat.le_refl _) (And.intro (cs_has l h _ (by omega)) (And.intro (Nat.le_refl _) (And.intro (cb_n0.mpr b) (ih1)))))))
    | true =>
      by_cases c : ps + nI 1 = p
      · cases b2 : bt x t with
        | true =>
          rw [show cb_sio x p (n + 1) t ps = nI t by simp [cb_sio, b, c, b2]]
          exact cw_run cw_kX2_signInOrder cw_z 20 [false, false, false, false] [] [(_, _), (_, _), (_, _)] (And.intro (hg) (And.intro (cs_opposites l h x) (And.intro (Nat.le_refl _) (And.intro (cs_has l h _ (by omega)) (And.intro (Nat.le_refl _) (And.intro (cb_nt.mpr b) (And.intro (fun q => q c) (And.intro (cs_has l h _ (by omega)) (And.intro (Nat.le_refl _) (And.intro (cb_nt.mpr b2) (cw_reti cw_kX2_signInOrder cw_z rfl rfl)))))))))))
        | false =>
          rw [show cb_sio x p (n + 1) t ps = nI (t + 10) by simp [cb_sio, b, c, b2]]
          exact cw_run cw_kX2_signInOrder cw_z 20 [false, false, false, true] [] [(_, _), (_, _), (_, _), (_, _)] (And.intro (hg) (And.intro (cs_opposites l h x) (And.intro (Nat.le_refl _) (And.intro (cs_has l h _ (by omega)) (And.intro (Nat.le_refl _) (And.intro (cb_nt.mpr b) (And.intro (fun q => q c) (And.intro (cs_has l h _ (by omega)) (And.intro (Nat.le_refl _) (And.intro (cb_n0.mpr b2) (And.intro (cs_oppLo l h (by omega)) (And.intro (Nat.le_refl _) (cw_reti cw_kX2_signInOrder cw_z rfl rfl)))))))))))))
      · rw [show cb_sio x p (n + 1) t ps = cb_sio x p n (t + 1) (ps + nI 1) by simp [cb_sio, b, c]]
        exact cw_run cw_kX2_signInOrder cw_z 16 [false, false, true] [] [(_, _), (_, _)] (And.intro (hg) (And.intro (cs_opposites l h x) (And.intro (Nat.le_refl _) (And.intro (cs_has l h _ (by omega)) (And.intro (Nat.le_refl _) (And.intro (cb_nt.mpr b) (And.intro (c) (ih2))))))))
theorem cs_signInOrder (l : Launch) (h : cw_H) (x p : Int32) : cw_M l mm_X2_signInOrder 0 0 [.int x, .int p] h (some (.int (cb_sio x p 9 1 (nI 0)))) h := by
  refine cw_enter cw_KX2_signInOrder (by decide) (Nat.le_of_ble_eq_true rfl) ?_
  exact cw_run cw_kX2_signInOrder cw_z 4 [] [] [] (cs_sio_loop l h x p 9 1 (nI 0) (by omega))
theorem cb_m (n : Nat) : nI n + -nI 1 = nI n - nI 1 := by rw [Int32.sub_eq_add_neg]

