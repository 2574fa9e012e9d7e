/-! static methods of the class -/
theorem cs_setOf (l : Launch) (h : cw_H) (x : Int32) : cw_M l mm_X2_setOf 0 0 [.int x] h (some (.int (nI 1 <<< (x &&& 31)))) h := by
  refine cw_enter cw_kX2_setOf (by decide) (Nat.le_of_ble_eq_true rfl) ?_
  exact cw_run cw_kX2_setOf cw_z 3 [] [] [] (cw_reti cw_kX2_setOf cw_z rfl rfl)
theorem cs_thingOf (l : Launch) (h : cw_H) (x : Int32) : cw_M l mm_X2_thingOf 0 0 [.int x] h (some (.int (if x < nI 10 then x else x - nI 10))) h := by
  refine cw_enter cw_kX2_thingOf (by decide) (Nat.le_of_ble_eq_true rfl) ?_
  by_cases c : x < nI 10
  · rw [if_pos c]
    exact cw_run cw_kX2_thingOf cw_z 4 [true] [] [] (And.intro c (cw_reti cw_kX2_thingOf cw_z rfl rfl))
  · rw [if_neg c]
    exact cw_run cw_kX2_thingOf cw_z 7 [false] [] [] (And.intro c (cw_reti cw_kX2_thingOf cw_z rfl rfl))
theorem cs_opposite (l : Launch) (h : cw_H) (x : Int32) : cw_M l mm_X2_opposite 0 0 [.int x] h (some (.int (if x < nI 10 then x + nI 10 else x - nI 10))) h := by
  refine cw_enter cw_kX2_opposite (by decide) (Nat.le_of_ble_eq_true rfl) ?_
  by_cases c : x < nI 10
  · rw [if_pos c]
    exact cw_run cw_kX2_opposite cw_z 6 [true] [] [] (And.intro c (cw_reti cw_kX2_opposite cw_z rfl rfl))
  · rw [if_neg c]
    exact cw_run cw_kX2_opposite cw_z 7 [false] [] [] (And.intro c (cw_reti cw_kX2_opposite cw_z rfl rfl))
theorem cs_has (l : Launch) (h : cw_H) (x : Int32) {k : Nat} (hk : k < 32) : cw_M l mm_X2_has 0 0 [.int x, .int (nI k)] h (some (.int (cb_n (bt x k)))) h := by
  refine cw_enter cw_kX2_has (by decide) (Nat.le_of_ble_eq_true rfl) ?_
  cases b : bt x k with
  | false => exact cw_run cw_kX2_has cw_z 6 [true] [] [(some (.int (nI 1 <<< (nI k &&& 31))), h)] (And.intro (cs_setOf l h (nI k)) (And.intro (Nat.le_refl _) (And.intro ((cb_has hk).mpr b) (cw_retz cw_kX2_has cw_z rfl rfl (Or.inl rfl)))))
  | true => exact cw_run cw_kX2_has cw_z 7 [false] [] [(some (.int (nI 1 <<< (nI k &&& 31))), h)] (And.intro (cs_setOf l h (nI k)) (And.intro (Nat.le_refl _) (And.intro (fun q => by rw [(cb_has hk).mp q] at b; cases b) (cw_retz cw_kX2_has cw_z rfl rfl (Or.inr rfl)))))
/-- the opposite signs of a set -/
def cb_op (x : Int32) : Int32 := ((x <<< (nI 10 &&& 31)) ||| (x >>> (nI 10 &&& 31))) &&& 1047550
theorem cs_opposites (l : Launch) (h : cw_H) (x : Int32) : cw_M l mm_X2_opposites 0 0 [.int x] h (some (.int (cb_op x))) h := by
  refine cw_enter cw_kX2_opposites (by decide) (Nat.le_of_ble_eq_true rfl) ?_
  exact cw_run cw_kX2_opposites cw_z 9 [] [] [] (cw_reti cw_kX2_opposites cw_z rfl rfl)
