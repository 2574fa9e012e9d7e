/-! the reference: its heap, its small methods -/
abbrev cm_S : Type := (Nat → Int32) × (Nat → Int32) × (Nat → Int32) × Int32 × (Nat → Int32) × (Nat → Int32) × (Nat → Int32) × Int32 × (Nat → Int32) × Int32
abbrev cm_st (M : cm_S) : Nat → Int32 := M.1
def cm_h (M : cm_S) : cw_H := [.inr (3, [.ref 1, .ref 2, .ref 3, .int M.2.2.2.1, .ref 4, .ref 5, .ref 6, .int M.2.2.2.2.2.2.2.1, .ref 7, .int M.2.2.2.2.2.2.2.2.2]), .inl (0, 109, .inl M.1), .inl (0, 109, .inl M.2.1), .inl (0, 654, .inl M.2.2.1), .inl (0, 218, .inl M.2.2.2.2.1), .inl (0, 2, .inl M.2.2.2.2.2.1), .inl (0, 60, .inl M.2.2.2.2.2.2.1), .inl (0, 32, .inl M.2.2.2.2.2.2.2.2.1)]
abbrev cm_wst (M : cm_S) (f : Nat → Int32) : cm_S := (f, M.2)
/-- within bounds -/
def cb_wi (v a b : Int32) : Bool := decide (¬ v < a ∧ ¬ b < v)
theorem cb_shb (x : Int32) {k : Nat} (hk : k < 32) : (x >>> (nI k &&& 31)) &&& nI 1 = cb_n (bt x k) := by
  have h1 : ∀ i, i < 32 → bt (nI 1) i = decide (i = 0) := by decide +kernel
  have h2 : ∀ i, i < 32 → bt (nI 0) i = false := by decide +kernel
  apply b_ext
  intro i hi
  rw [b_and, b_sshr k hk x hi, h1 i hi]
  by_cases e : i = 0
  · subst e
    rw [if_pos (by omega), Nat.add_zero]
    cases bt x k <;> simp [cb_n, h1 0 (by omega), h2 0 (by omega)]
  · rw [decide_eq_false e, Bool.and_false]
    cases bt x k <;> simp [cb_n, h1 i hi, h2 i hi, e]
theorem cb_n1 {b : Bool} : cb_n b = nI 1 ↔ b = true := by cases b <;> decide +kernel
/-- the value that a sign wants -/
def cb_wa (k : Nat) : Int32 := if k < 10 then nI 1 else nI 0
theorem cb_r10 {s : Nat} (h : s < 32) : nI s - nI s / nI 10 * nI 10 = nI (s % 10) := pk_rem (by omega) (by omega) (by omega)
/-- is a clause true (from sign s on, n more)? how many of its signs are open? -/
def cm_tr (f : Nat → Int32) (c : Int32) : Nat → Nat → Bool → Bool
  | 0, _, a => a
  | n + 1, s, a => cm_tr f c n (s + 1) (a || (bt c s && decide (f (19 + s % 10) = cb_wa s)))
def cm_op (f : Nat → Int32) (c : Int32) : Nat → Nat → Nat → Nat
  | 0, _, a => a
  | n + 1, s, a => cm_op f c n (s + 1) (a + (if bt c s = true ∧ f (19 + s % 10) = -nI 6 then 1 else 0))
theorem cm_op_le (f : Nat → Int32) (c : Int32) : ∀ n s a, cm_op f c n s a ≤ a + n
  | 0, _, _ => Nat.le_refl _
  | n + 1, s, a => by
    have := cm_op_le f c n (s + 1) (a + (if bt c s = true ∧ f (19 + s % 10) = -nI 6 then 1 else 0))
    have h2 : (if bt c s = true ∧ f (19 + s % 10) = -nI 6 then 1 else 0) ≤ 1 := by split <;> omega
    unfold cm_op
    omega
def cm_opn (f : Nat → Int32) (c : Int32) : Nat := cm_op f c 19 1 0
def cm_tru (f : Nat → Int32) (c : Int32) : Bool := cm_tr f c 19 1 false
def cm_fa (f : Nat → Int32) (c : Int32) : Bool := decide (cm_opn f c = 0) && !cm_tru f c
/-- the sign of a clause that has a thing -/
def cm_so (c : Int32) (k : Nat) : Int32 := if bt c k then nI k else if bt c (k + 10) then nI (k + 10) else -nI 6
def cm_wo (c : Int32) (x : Int32) : Int32 := c &&& (((nI 1 <<< (x &&& 31)) ||| (nI 1 <<< ((x + nI 10) &&& 31))) ^^^ (-nI 1))
/-- a thing forgotten -/
def cm_fg (f : Nat → Int32) (x : Nat) : Nat → Int32 := upd (upd (upd f (19 + x) (-nI 6)) (29 + x) (-nI 6)) (39 + x) (-nI 6)
