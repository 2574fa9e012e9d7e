/-! the reference: what is asked of it, answers, searches -/
theorem cb_sw (x : Int32) (n : Nat) (hn : n < 2 ^ 31) : (∃ j, j ≤ n ∧ x = nI j) ∨ (x.toInt < 0 ∨ (n : Int) < x.toInt) := by
  by_cases c : x < 0
  · right; left
    exact Int32.lt_iff_toInt_lt.mp c
  · obtain ⟨j, hj, rfl⟩ := nI_of c
    rcases Nat.lt_or_ge n j with q | q
    · right; right
      rw [nI_toInt hj]; omega
    · exact Or.inl ⟨j, q, rfl⟩
def cm_ofa (f : Nat → Int32) (k g : Nat) : Nat → Int32
  | 0 => f (19 + k)
  | 1 => f (29 + k)
  | 2 => f (39 + k)
  | _ => cm_pf f (nI k) g 0 (-nI 6)
abbrev cb_cl (f : Nat → Int32) (x : Int32) : Bool := cb_wi x (nI 0) (f 3 + f 4 - nI 1)
def cm_cla (f : Nat → Int32) (c : Int32) (j : Nat) : Int32 := if j = 0 then nI (cm_si c 19 1 0) else if j = 10 then cb_n (cm_tru f c) else if j = 11 then cb_n (cm_fa f c) else if j = 12 then nI (cm_opn f c) else cm_sa c 9 1 (nI j - nI 1) (-nI 6)
theorem cm_clause_sw : ∀ j, j ≤ 12 → j ≠ 0 → j ≠ 10 → j ≠ 11 → j ≠ 12 → Op.lookupswitch.offset [(0, 44), (10, 49), (11, 63), (12, 77)] 83 (nI j).toInt = 83 := by decide +kernel
def cm_cnt (M : cm_S) : Nat → Int32
  | 0 => cm_st M 3
  | 1 => cm_st M 4
  | 2 => cm_st M 5
  | 3 => cm_st M 6
  | 4 => cm_st M 7
  | 5 => cm_st M 8
  | 6 => cm_st M 9
  | 7 => cm_st M 0
  | 8 => cm_st M 1
  | 9 => cm_st M 2
  | 10 => M.2.2.2.2.2.2.2.1
  | _ => M.2.2.2.1
/-- how many answers there are, and how many with a thing at 1 -/
def cm_io2 (f : Nat → Int32) (t x : Nat) : Nat → Nat → Nat → Nat → Nat × Nat
  | 0, _, a, b => (a, b)
  | n + 1, A, a, b => cm_io2 f t x n (A + 1) (a + (if cm_isa f t A (-nI 6) = true ∧ bt (nI A) (x - 1) = true then 1 else 0)) (b + (if cm_isa f t A (-nI 6) then 1 else 0))
theorem cm_io2_le (f : Nat → Int32) (t x : Nat) : ∀ n A a b, (cm_io2 f t x n A a b).1 ≤ a + n ∧ (cm_io2 f t x n A a b).2 ≤ b + n
  | 0, _, _, _ => ⟨Nat.le_refl _, Nat.le_refl _⟩
  | n + 1, A, a, b => by
    have h := cm_io2_le f t x n (A + 1) (a + (if cm_isa f t A (-nI 6) = true ∧ bt (nI A) (x - 1) = true then 1 else 0)) (b + (if cm_isa f t A (-nI 6) then 1 else 0))
    have h2 : (if cm_isa f t A (-nI 6) = true ∧ bt (nI A) (x - 1) = true then 1 else 0) ≤ 1 := by split <;> omega
    have h3 : (if cm_isa f t A (-nI 6) then 1 else 0) ≤ 1 := by split <;> omega
    unfold cm_io2
    omega
def cm_ina (p : Nat × Nat) (w : Int32) : Int32 := if w = 0 then nI p.1 else if p.1 = 0 then nI 1 else if p.1 = p.2 then nI 1 else nI 0
/-- does a clause follow? -/
def cm_fl (f : Nat → Int32) (t : Nat) (c : Int32) : Nat → Nat → Bool → Bool
  | 0, _, b => b
  | n + 1, A, b => cm_fl f t c n (A + 1) (b && (!cm_isa f t A (-nI 6) || cm_fi c A 19 1 false))
/-- the needless ones -/
def cm_nd (f : Nat → Int32) (t th : Nat) : Nat → Nat → Int32 → Int32
  | 0, _, a => a
  | n + 1, k, a => cm_nd f t th n (k + 1) (a ||| (if cm_ab f t (nI k) (2 ^ th) 0 0 = cm_ab f t (-nI 6) (2 ^ th) 0 0 then nI 1 <<< (nI k &&& 31) else nI 0))
theorem cm_ab_le (f : Nat → Int32) (t : Nat) (but : Int32) : ∀ n A m, cm_ab f t but n A m ≤ m + n
  | 0, _, _ => Nat.le_refl _
  | n + 1, A, m => by
    have h := cm_ab_le f t but n (A + 1) (m + (if cm_isa f t A but then 1 else 0))
    have h3 : (if cm_isa f t A but then 1 else 0) ≤ 1 := by split <;> omega
    unfold cm_ab
    omega
/-- searches beside the state: it is kept, and comes back -/
abbrev cm_kp (M : cm_S) : Nat → Int32 := cm_cp M.1 M.2.1 0 0 109
def cm_sra (f : Nat → Int32) (w : Int32) : Int32 := if f 5 = 0 then -nI 6 else if w = 0 then f 9 else if w = nI 1 then f 8 else f 5
def cm_ita (f : Nat → Int32) : Int32 := if f 5 = 0 then -nI 6 else f 5
def cm_itf (f : Nat → Int32) (t s : Nat) : Nat → Int32 := upd (upd f (49 + t) (nI 1 <<< (nI s &&& 31))) 3 (nI (t + 1))
