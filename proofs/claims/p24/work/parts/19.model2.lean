/-! the reference: the trail, the clauses, what a conflict gives -/
/-- what bounds the rows: t told clauses, n learned ones, g values; the things of the trail -/
def cm_B (f : Nat → Int32) (t n g : Nat) : Prop := (f 3 = nI t ∧ t ≤ 20) ∧ (f 4 = nI n ∧ n ≤ 40) ∧ (f 7 = nI g ∧ g ≤ 9) ∧ ∀ k, k < g → ∃ x, x ≤ 9 ∧ f (10 + k) = nI x
def cm_x (f : Nat → Int32) (k : Nat) : Nat := (f (10 + k)).toNatClampNeg
theorem cm_B_x {f : Nat → Int32} {t n g : Nat} (h : cm_B f t n g) {k : Nat} (hk : k < g) : cm_x f k ≤ 9 ∧ f (10 + k) = nI (cm_x f k) := by
  obtain ⟨x, h1, h2⟩ := h.2.2.2 k hk
  have : cm_x f k = x := by unfold cm_x; rw [h2, nI_clamp (by omega)]
  rw [this]
  exact ⟨h1, h2⟩
/-- the first half of going back: from place k on, n more; so many are left -/
def cm_gb (L : Int32) : Nat → Nat → Nat → (Nat → Int32) → Nat × (Nat → Int32)
  | 0, _, left, f => (left, f)
  | n + 1, k, left, f => if f (29 + cm_x f k) ≤ L then cm_gb L n (k + 1) (left + 1) (upd f (10 + left) (f (10 + k))) else cm_gb L n (k + 1) left (cm_fg f (cm_x f k))
/-- zeros behind the trail -/
def cm_zt (f : Nat → Int32) (a : Nat) : Nat → Nat → Int32 := fun i j => if 10 + a ≤ j ∧ j < 10 + i then nI 0 else f j
def cm_gbk (L : Int32) (g : Nat) (f : Nat → Int32) : Nat → Int32 := upd (upd (cm_zt (cm_gb L g 0 0 f).2 (cm_gb L g 0 0 f).1 9) 7 (nI (cm_gb L g 0 0 f).1)) 6 L
theorem cm_zt_0 (f : Nat → Int32) (a : Nat) : cm_zt f a a = f := by funext j; unfold cm_zt; rw [if_neg (by omega)]
theorem cm_zt_s (f : Nat → Int32) {a i : Nat} (h : a ≤ i) : upd (cm_zt f a i) (10 + i) (nI 0) = cm_zt f a (i + 1) := by
  funext j
  unfold upd cm_zt
  by_cases e : j = 10 + i
  · subst e; rw [if_pos rfl, if_pos (by omega)]
  · rw [if_neg e]
    by_cases q : 10 + a ≤ j ∧ j < 10 + i
    · rw [if_pos q, if_pos (by omega)]
    · rw [if_neg q, if_neg (by omega)]
theorem cm_gb_le (L : Int32) : ∀ n k left f, (cm_gb L n k left f).1 ≤ left + n
  | 0, _, _, _ => Nat.le_refl _
  | n + 1, k, left, f => by
    unfold cm_gb
    split
    · have := cm_gb_le L n (k + 1) (left + 1) (upd f (10 + left) (f (10 + k))); omega
    · have := cm_gb_le L n (k + 1) left (cm_fg f (cm_x f k)); omega
/-- along the first half: places from k on are as they were, and have things -/
def cm_go (g k left : Nat) (f : Nat → Int32) : Prop := left ≤ k ∧ f 7 = nI g ∧ ∀ j, k ≤ j → j < g → ∃ x, x ≤ 9 ∧ f (10 + j) = nI x
/-- a value given -/
def cm_gv (f : Nat → Int32) (g x : Nat) (v r : Int32) : Nat → Int32 := upd (upd (upd (upd (upd f (10 + g) (nI x)) 7 (nI (g + 1))) (19 + x) v) (29 + x) (f 6)) (39 + x) r
/-- the false clause, the following one with the lowest number: from number n - 1 down -/
def cm_fo (f : Nat → Int32) : Nat → Int32 → Int32
  | 0, a => a
  | n + 1, a => cm_fo f n (if cm_fa f (f (49 + n)) then nI n else a)
def cm_fw (f : Nat → Int32) : Nat → Int32 → Int32
  | 0, a => a
  | n + 1, a => cm_fw f n (if cm_opn f (f (49 + n)) = 1 ∧ cm_tru f (f (49 + n)) = false then nI n else a)
/-- the lowest open thing, from thing n down -/
def cm_lw (f : Nat → Int32) : Nat → Int32 → Int32
  | 0, a => a
  | n + 1, a => cm_lw f n (if f (19 + (n + 1)) = -nI 6 then nI (n + 1) else a)
