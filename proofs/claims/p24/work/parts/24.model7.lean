/-! the reference: its public methods -/
abbrev cm_wrc (M : cm_S) (u : Int32) : cm_S := (M.1, M.2.1, M.2.2.1, u, M.2.2.2.2)
abbrev cm_wpl (M : cm_S) (n : Int32) : cm_S := (M.1, M.2.1, M.2.2.1, M.2.2.2.1, M.2.2.2.2.1, M.2.2.2.2.2.1, M.2.2.2.2.2.2.1, n, M.2.2.2.2.2.2.2.2)
abbrev cm_wpp (M : cm_S) (f : Nat → Int32) (n : Int32) : cm_S := (M.1, M.2.1, M.2.2.1, M.2.2.2.1, M.2.2.2.2.1, M.2.2.2.2.2.1, f, n, M.2.2.2.2.2.2.2.2)
/-- clauses of the pad told -/
def cm_add (f td : Nat → Int32) (t i : Nat) : Nat → Int32 := fun j => if 49 + t ≤ j ∧ j < 49 + t + i then td (j - 49 - t) else if j = 3 then nI (t + i) else f j
theorem cm_add_0 {f : Nat → Int32} {t : Nat} (ht : f 3 = nI t) (td : Nat → Int32) : cm_add f td t 0 = f := by
  funext j
  unfold cm_add
  rw [if_neg (by omega)]
  by_cases e : j = 3
  · subst e; rw [if_pos rfl]; exact ht.symm
  · rw [if_neg e]
theorem cm_add_3 (f td : Nat → Int32) (t i : Nat) : cm_add f td t i 3 = nI (t + i) := by
  unfold cm_add; rw [if_neg (by omega), if_pos rfl]
theorem cm_add_s (f td : Nat → Int32) (t i : Nat) : upd (upd (cm_add f td t i) (49 + (t + i)) (td i)) 3 (nI (t + (i + 1))) = cm_add f td t (i + 1) := by
  funext j
  unfold upd cm_add
  by_cases e3 : j = 3
  · subst e3; rw [if_pos rfl, if_neg (by omega), if_pos rfl]
  · rw [if_neg e3, if_neg e3, if_neg e3]
    by_cases e : j = 49 + (t + i)
    · subst e; rw [if_pos rfl, if_pos (by omega), show 49 + (t + i) - 49 - t = i by omega]
    · rw [if_neg e]
      by_cases q : 49 + t ≤ j ∧ j < 49 + t + i
      · rw [if_pos q, if_pos (by omega)]
      · rw [if_neg q, if_neg (by omega)]
/-- is a thing of the clauses from k on, n of them, too great? -/
def cm_big (td : Nat → Int32) (th : Int32) : Nat → Nat → Bool
  | 0, _ => false
  | n + 1, k => if th < cm_gi (td k) 9 1 (nI 0) then true else cm_big td th n (k + 1)
abbrev cm_td (M : cm_S) : Nat → Int32 := M.2.2.2.2.2.2.2.2.1
abbrev cm_tm (M : cm_S) : Int32 := M.2.2.2.2.2.2.2.2.2
