/-! the reference: the pad, the fault, the constructor -/
abbrev cm_w2 (M : cm_S) (td : Nat → Int32) (m : Int32) : cm_S := (M.1, M.2.1, M.2.2.1, M.2.2.2.1, M.2.2.2.2.1, M.2.2.2.2.2.1, M.2.2.2.2.2.2.1, M.2.2.2.2.2.2.2.1, td, m)
abbrev cm_pd (M : cm_S) : Nat → Int32 := M.2.2.2.2.2.2.1
def cm_ch (f : Nat → Int32) (N k : Nat) : Int32 := if k < N then f k else -nI 1
/-- the fault from character a on: the last thing, the clause so far, the clauses before -/
def cm_cc (c d : Int32) (z : Bool) : Int32 := c ||| (nI 1 <<< ((d + (if z then nI 10 else nI 0)) &&& 31))
def cm_ff (ch : Nat → Int32) (N : Nat) : Nat → Nat → Int32 → Int32 → Nat → (Nat → Int32) → Int32 × (Nat → Int32) × Nat
  | 0, _, _, _, m, td => (-nI 6, td, m)
  | n + 1, a, L, c, m, td => if cb_wi (ch (a + (if ch a = nI 45 then 1 else 0)) - nI 48) (L + nI 1) (nI 9) then (
      if ch (a + (if ch a = nI 45 then 1 else 0) + 1) = nI 44 ∧ ch (a + (if ch a = nI 45 then 1 else 0)) - nI 48 < nI 9 then cm_ff ch N n (a + (if ch a = nI 45 then 1 else 0) + 2) (ch (a + (if ch a = nI 45 then 1 else 0)) - nI 48) (cm_cc c (ch (a + (if ch a = nI 45 then 1 else 0)) - nI 48) (decide (ch a = nI 45))) m td
      else if a + (if ch a = nI 45 then 1 else 0) + 1 = N then (-nI 6, upd td m (cm_cc c (ch (a + (if ch a = nI 45 then 1 else 0)) - nI 48) (decide (ch a = nI 45))), m + 1)
      else if ch (a + (if ch a = nI 45 then 1 else 0) + 1) = nI 59 then cm_ff ch N n (a + (if ch a = nI 45 then 1 else 0) + 2) (nI 0) (nI 0) (m + 1) (upd td m (cm_cc c (ch (a + (if ch a = nI 45 then 1 else 0)) - nI 48) (decide (ch a = nI 45))))
      else (nI (a + (if ch a = nI 45 then 1 else 0) + 1), upd td m (cm_cc c (ch (a + (if ch a = nI 45 then 1 else 0)) - nI 48) (decide (ch a = nI 45))), m + 1))
    else (nI (a + (if ch a = nI 45 then 1 else 0)), td, m)
theorem cm_ch_lt {f : Nat → Int32} {N k : Nat} (h : ¬ cm_ch f N k = -nI 1) : k < N := by
  rcases Nat.lt_or_ge k N with q | q
  · exact q
  · exact absurd (if_neg (by omega)) h
theorem cm_wi_lt {f : Nat → Int32} {N k : Nat} {L : Int32} (hL : ¬ L < 0 ∧ L ≤ nI 9) (h : cb_wi (cm_ch f N k - nI 48) (L + nI 1) (nI 9) = true) : k < N := by
  refine cm_ch_lt (f := f) (fun q => ?_)
  rw [q] at h
  obtain ⟨j, hj, rfl⟩ := nI_of hL.1
  have hj9 : j ≤ 9 := by
    rcases Nat.lt_or_ge 9 j with z | z
    · exact absurd hL.2 (nI_ge z hj)
    · exact z
  revert h
  exact (by decide +kernel : ∀ j, j ≤ 9 → ¬ cb_wi (-nI 1 - nI 48) (nI j + nI 1) (nI 9) = true) j hj9
def cm_fr (f : Nat → Int32) (N : Nat) (td : Nat → Int32) : Int32 × (Nat → Int32) × Nat := cm_ff (cm_ch f N) N 31 0 (nI 0) (nI 0) 0 td
def cm_blank : cw_H := [.inr (3, [.null, .null, .null, .int 0, .null, .null, .null, .int 0, .null, .int 0])]
def cm_z0 : Nat → Int32 := upd (upd (fun _ => 0) 0 (nI 4)) 1 (nI 10)
def cm_z : cm_S := (cm_an cm_z0 0, fun _ => 0, fun _ => 0, nI 0, fun _ => 0, fun _ => 0, fun _ => 0, nI 0, fun _ => 0, nI 0)
