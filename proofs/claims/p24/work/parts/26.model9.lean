/-! the reference: texts, undo, saving -/
def cm_rs (x : Int64) : Nat → Int64
  | 0 => x
  | m + 1 => ((cm_rs x m).toUInt64 >>> ((nI 8).toInt64.toUInt64 &&& Int64.toUInt64 63)).toInt64
/-- how many characters, are all of them such -/
def cm_pl (x : Int64) : Nat → Nat → Bool → Nat × Bool
  | 0, m, b => (m, b)
  | n + 1, m, b => if lg_cmp (cm_rs x m &&& 255) (Int64.ofNat 0) = 0 then (m, b) else cm_pl x n (m + 1) (b && cb_wi (cm_rs x m &&& 255).toInt32 (nI 33) (nI 126))
theorem cm_pl_le (x : Int64) : ∀ n m b, (cm_pl x n m b).1 ≤ m + n
  | 0, _, _ => Nat.le_refl _
  | n + 1, m, b => by
    unfold cm_pl
    split
    · show m ≤ _; omega
    · have := cm_pl_le x n (m + 1) (b && cb_wi (cm_rs x m &&& 255).toInt32 (nI 33) (nI 126)); omega
def cm_pa (x : Int64) : Nat → Nat → (Nat → Int32) → Nat → Int32
  | 0, _, f => f
  | m + 1, n, f => cm_pa x m (n + 1) (upd f n (cp_cd x m))
abbrev cm_wsl (M : cm_S) (sl sv : Nat → Int32) : cm_S := (M.1, M.2.1, M.2.2.1, M.2.2.2.1, sl, sv, M.2.2.2.2.2.2)
