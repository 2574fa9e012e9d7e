/-! the reference: learning, following, one step, many; beginning anew -/
def cm_rm (f : Nat → Int32) (t n : Nat) : Nat → Int32 := if n = 40 then cm_dr f t n (cm_mk f t n (-nI 6)).toNatClampNeg else f
def cm_n2 (n : Nat) : Nat := if n = 40 then 39 else n
def cm_ps (f : Nat → Int32) (t n : Nat) (c : Int32) : Nat → Int32 := upd (upd (upd f (49 + (t + n)) c) 4 (nI (n + 1))) 8 (f 8 + nI 1)
def cm_le (f : Nat → Int32) (g : Nat) : Nat → Int32 := if f 8 - f 8 / f 1 * f 1 = 0 then cm_gbk (nI 0) g f else f
/-- what learning the clause c makes of the state -/
def cm_lf (f : Nat → Int32) (t n g : Nat) (c : Int32) : Nat → Int32 := cm_le (cm_ps (cm_rm (cm_gbk (cm_lb f c g 0 (nI 0)) g f) t n) t (cm_n2 n) c) (cm_gb (cm_lb f c g 0 (nI 0)) g 0 0 f).1
/-- the sign that follows out of a clause -/
def cm_fs (f : Nat → Int32) (c : Int32) : Nat → Nat → Int32 → Int32
  | 0, _, a => a
  | n + 1, s, a => cm_fs f c n (s + 1) (if bt c s = true ∧ f (19 + s % 10) = -nI 6 then nI s else a)
/-- one step, in its five forms -/
def cm_s0 (f : Nat → Int32) : Nat → Int32 := upd f 9 (f 9 + nI 1)
theorem cm_n6 {k : Nat} (hk : k < 2 ^ 31) : ¬ nI k = -nI 6 := by
  have : -nI 6 < nI 0 := by decide
  intro q; rw [← q] at this; exact nI_nlt (by omega) (by omega) this
