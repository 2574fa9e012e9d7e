/-! the reference: what a conflict gives, room for it -/
/-- has the thing at a place of the trail the present level, and a sign in the clause? -/
def cm_at (f : Nat → Int32) (c : Int32) (k : Nat) : Bool := decide (f (29 + cm_x f k) = f 6) && !decide (cm_so c (cm_x f k) = -nI 6)
def cm_pi (f : Nat → Int32) (c : Int32) : Nat → Nat → Nat → Nat
  | 0, _, a => a
  | n + 1, k, a => cm_pi f c n (k + 1) (a + (if cm_at f c k then 1 else 0))
def cm_li (f : Nat → Int32) (c : Int32) : Nat → Nat → Int32 → Int32
  | 0, _, a => a
  | n + 1, k, a => cm_li f c n (k + 1) (if cm_at f c k then nI (cm_x f k) else a)
theorem cm_pi_ge (f : Nat → Int32) (c : Int32) : ∀ n k a, a ≤ cm_pi f c n k a
  | 0, _, _ => Nat.le_refl _
  | n + 1, k, a => by
    unfold cm_pi
    exact Nat.le_trans (Nat.le_add_right _ _) (cm_pi_ge f c n (k + 1) _)
theorem cm_pi_le (f : Nat → Int32) (c : Int32) : ∀ n k a, cm_pi f c n k a ≤ a + n
  | 0, _, _ => Nat.le_refl _
  | n + 1, k, a => by
    have h2 : (if cm_at f c k then 1 else 0) ≤ 1 := by split <;> omega
    have := cm_pi_le f c n (k + 1) (a + (if cm_at f c k then 1 else 0))
    unfold cm_pi
    omega
/-- the last one is a thing, where there is one -/
theorem cm_li_ok {f : Nat → Int32} {t nn g : Nat} (hB : cm_B f t nn g) (c : Int32) : ∀ n k a b, k + n = g → (b = 0 ∨ ∃ x, x ≤ 9 ∧ a = nI x) → 0 < cm_pi f c n k b → ∃ x, x ≤ 9 ∧ cm_li f c n k a = nI x
  | 0, k, a, b, hk, h, hp => by
    rcases h with h | h
    · unfold cm_pi at hp; omega
    · exact h
  | n + 1, k, a, b, hk, h, hp => by
    unfold cm_pi at hp
    unfold cm_li
    cases e : cm_at f c k with
    | true =>
      rw [if_pos rfl]
      rw [e, if_pos rfl] at hp
      exact cm_li_ok hB c n (k + 1) _ _ (by omega) (Or.inr ⟨_, (cm_B_x hB (by omega)).1, rfl⟩) hp
    | false =>
      rw [if_neg (by decide)]
      rw [e, if_neg (by decide)] at hp
      exact cm_li_ok hB c n (k + 1) _ _ (by omega) h hp
/-- a reason's clause lies in the row -/
def cm_R (f : Nat → Int32) : Prop := ∀ x, x ≤ 9 → ∃ j, j < 109 ∧ nI 49 + f (39 + x) = nI j
def cm_rc (f : Nat → Int32) (x : Int32) : Int32 := f (nI 49 + f (nI 39 + x).toNatClampNeg).toNatClampNeg
/-- the clause learnt out of a clause, in at most so many turns -/
def cm_ln (f : Nat → Int32) (g : Nat) : Nat → Int32 → Option Int32
  | 0, _ => none
  | N + 1, c => if cm_pi f c g 0 0 ≤ 1 then some c else cm_ln f g N (cm_wo c (cm_li f c g 0 (-nI 6)) ||| cm_wo (cm_rc f (cm_li f c g 0 (-nI 6))) (cm_li f c g 0 (-nI 6)))
/-- the greatest level below the present one -/
def cm_lb (f : Nat → Int32) (c : Int32) : Nat → Nat → Int32 → Int32
  | 0, _, a => a
  | n + 1, k, a => cm_lb f c n (k + 1) (if f 6 ≤ f (29 + cm_x f k) then a else if f (29 + cm_x f k) ≤ a then a else if cm_so c (cm_x f k) = -nI 6 then a else f (29 + cm_x f k))
def cm_ir (f : Nat → Int32) (c : Int32) : Nat → Nat → Bool → Bool
  | 0, _, a => a
  | n + 1, x, a => cm_ir f c n (x + 1) (a || decide (f (39 + x) = c))
/-- a learned clause dropped -/
def cm_sf (f : Nat → Int32) (k i : Nat) : Nat → Int32 := fun j => if 49 + k ≤ j ∧ j < 49 + i then f (j + 1) else f j
theorem cm_sf_k (f : Nat → Int32) (k : Nat) : cm_sf f k k = f := by funext j; unfold cm_sf; rw [if_neg (by omega)]
theorem cm_sf_s (f : Nat → Int32) {k i : Nat} (h : k ≤ i) : upd (cm_sf f k i) (49 + i) (cm_sf f k i (49 + i + 1)) = cm_sf f k (i + 1) := by
  funext j
  unfold upd cm_sf
  by_cases e : j = 49 + i
  · subst e; rw [if_pos rfl, if_neg (by omega), if_pos (by omega)]
  · rw [if_neg e]
    by_cases q : 49 + k ≤ j ∧ j < 49 + i
    · rw [if_pos q, if_pos (by omega)]
    · rw [if_neg q, if_neg (by omega)]
def cm_lr (f : Nat → Int32) (x : Int32) (i : Nat) : Nat → Int32 := fun j => if 40 ≤ j ∧ j < 39 + i ∧ x < f j then f j - nI 1 else f j
theorem cm_lr_1 (f : Nat → Int32) (x : Int32) : cm_lr f x 1 = f := by funext j; unfold cm_lr; rw [if_neg (by omega)]
theorem cm_lr_at (f : Nat → Int32) (x : Int32) (i : Nat) : cm_lr f x i (39 + i) = f (39 + i) := by unfold cm_lr; rw [if_neg (by omega)]
theorem cm_lr_s (f : Nat → Int32) (x : Int32) {i : Nat} (h : 1 ≤ i) : upd (cm_lr f x i) (39 + i) (f (39 + i) - (if x < f (39 + i) then nI 1 else nI 0)) = cm_lr f x (i + 1) := by
  funext j
  unfold upd cm_lr
  by_cases e : j = 39 + i
  · subst e
    rw [if_pos rfl]
    by_cases c : x < f (39 + i)
    · rw [if_pos c, if_pos ⟨by omega, by omega, c⟩]
    · rw [if_neg c, if_neg (fun q => c q.2.2)]
      exact Int32.sub_zero _
  · rw [if_neg e]
    by_cases q : 40 ≤ j ∧ j < 39 + i ∧ x < f j
    · rw [if_pos q, if_pos ⟨q.1, by omega, q.2.2⟩]
    · rw [if_neg q, if_neg (fun q2 => q ⟨q2.1, by omega, q2.2.2⟩)]
def cm_dr (f : Nat → Int32) (t n k : Nat) : Nat → Int32 := cm_lr (upd (upd (cm_sf f k (t + n - 1)) (49 + (t + n) - 1) (nI 0)) 4 (nI (n - 1))) (nI k) 10
/-- the learned clause that is to go: from number t + m - 1 down to t -/
def cm_mk (f : Nat → Int32) (t : Nat) : Nat → Int32 → Int32
  | 0, a => a
  | m + 1, a => cm_mk f t m (if cm_ir f (nI (t + m)) 9 1 false then a else nI (t + m))
