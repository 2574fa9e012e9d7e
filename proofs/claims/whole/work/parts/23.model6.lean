/-! the reference: the pad, the fault, the constructor -/
abbrev cm_w2 (M : cm_S) (td : Nat → Int32) (m : Int32) : cm_S := (M.1, M.2.1, M.2.2.1, M.2.2.2.1, M.2.2.2.2.1, M.2.2.2.2.2.1, M.2.2.2.2.2.2.1, M.2.2.2.2.2.2.2.1, td, m)
abbrev cm_pd (M : cm_S) : Nat → Int32 := M.2.2.2.2.2.2.1
def cm_ch (f : Nat → Int32) (N k : Nat) : Int32 := if k < N then f k else -nI 1
theorem cm_character (l : Launch) (M : cm_S) {N k : Nat} (hN : M.2.2.2.2.2.2.2.1 = nI N) (h60 : N ≤ 60) (hk : k < 2 ^ 31) : cw_M l mm_X3_character 0 0 [.ref 0, .int (nI k)] (cm_h M) (some (.int (cm_ch (cm_pd M) N k))) (cm_h M) := by
  refine cw_enter cw_kX3_character (by decide) (Nat.le_of_ble_eq_true rfl) ?_
  unfold cm_ch
  by_cases c : k < N
  · rw [if_pos c]
    exact cw_run cw_kX3_character cw_z 9 [false] [_] [] (And.intro ((show ¬ M.2.2.2.2.2.2.2.1 ≤ nI k by rw [hN]; exact nI_ge c (by omega))) (And.intro (rfl) (And.intro ((show k < 60 by omega)) (cw_reti cw_kX3_character cw_z rfl rfl))))
  · rw [if_neg c]
    exact cw_run cw_kX3_character cw_z 5 [true] [] [] (And.intro ((show M.2.2.2.2.2.2.2.1 ≤ nI k by rw [hN]; exact nI_le (by omega) hk)) (cw_reti cw_kX3_character cw_z rfl rfl))
/-- the fault from character a on: the last thing, the clause so far, the clauses before -/
def cm_cc (c d : Int32) (z : Bool) : Int32 := c ||| (nI 1 <<< ((d + (if z then nI 10 else nI 0)) &&& 31))
def cm_ff (ch : Nat → Int32) (N : Nat) : Nat → Nat → Int32 → Int32 → Nat → (Nat → Int32) → Int32 × (Nat → Int32) × Nat
  | 0, _, _, _, m, td => (-nI 6, td, m)
  | n + 1, a, L, c, m, td => if cb_wi (ch (a + (if ch a = nI 45 then 1 else 0)) - nI 48) (L + nI 1) (nI 9) then (
      if ch (a + (if ch a = nI 45 then 1 else 0) + 1) = nI 44 ∧ ch (a + (if ch a = nI 45 then 1 else 0)) - nI 48 < nI 9 then cm_ff ch N n (a + (if ch a = nI 45 then 1 else 0) + 2) (ch (a + (if ch a = nI 45 then 1 else 0)) - nI 48) (cm_cc c (ch (a + (if ch a = nI 45 then 1 else 0)) - nI 48) (decide (ch a = nI 45))) m td
      else if a + (if ch a = nI 45 then 1 else 0) + 1 = N then (-nI 6, upd td m (cm_cc c (ch (a + (if ch a = nI 45 then 1 else 0)) - nI 48) (decide (ch a = nI 45))), m + 1)
      else if ch (a + (if ch a = nI 45 then 1 else 0) + 1) = nI 59 then cm_ff ch N n (a + (if ch a = nI 45 then 1 else 0) + 2) (nI 0) (nI 0) (m + 1) (upd td m (cm_cc c (ch (a + (if ch a = nI 45 then 1 else 0)) - nI 48) (decide (ch a = nI 45))))
      else (nI (a + (if ch a = nI 45 then 1 else 0) + 1), upd td m (cm_cc c (ch (a + (if ch a = nI 45 then 1 else 0)) - nI 48) (decide (ch a = nI 45))), m + 1))
    else (nI (a + (if ch a = nI 45 then 1 else 0)), td, m)
theorem cm_ch_lt {f : Nat → Int32} {N k : Nat} (h : ¬ cm_ch f N k = -nI 1) : k < N := by
  rcases Nat.lt_or_ge k N with q | q
  · exact q
  · exact absurd (if_neg (by omega)) h
theorem cm_wi_lt {f : Nat → Int32} {N k : Nat} {L : Int32} (hL : ¬ L < 0 ∧ L ≤ nI 9) (h : cb_wi (cm_ch f N k - nI 48) (L + nI 1) (nI 9) = true) : k < N := by
  refine cm_ch_lt (f := f) (fun q => ?_)
  rw [q] at h
  obtain ⟨j, hj, rfl⟩ := nI_of hL.1
  have hj9 : j ≤ 9 := by
    rcases Nat.lt_or_ge 9 j with z | z
    · exact absurd hL.2 (nI_ge z hj)
    · exact z
  revert h
  exact (by decide +kernel : ∀ j, j ≤ 9 → ¬ cb_wi (-nI 1 - nI 48) (nI j + nI 1) (nI 9) = true) j hj9
/-- behind a clause -/
theorem cm_ff_end (l : Launch) (M0 M : cm_S) {N : Nat} (hN : M.2.2.2.2.2.2.2.1 = nI N) (h60 : N ≤ 60) {b m : Nat} (hb : b ≤ N) (hm : m < 32) (td : Nat → Int32) (c d : Int32) {r : Option Value} {h1 : cw_H}
    (k1 : b = N → r = some (.int (-nI 6)) ∧ h1 = cm_h (cm_w2 M (upd td m c) (nI (m + 1))))
    (k2 : b ≠ N → ¬ cm_ch (cm_pd M) N b = nI 59 → r = some (.int (nI b)) ∧ h1 = cm_h (cm_w2 M (upd td m c) (nI (m + 1))))
    (k3 : b ≠ N → cm_ch (cm_pd M) N b = nI 59 → cw_W l mm_X3_findFault 0 0 (cm_h M0) r h1 0 0 14 [(4, .int (nI 1)), (3, .int (nI 0)), (2, .int (nI 0)), (1, .int (nI (b + 1))), (0, .ref 0)] [] (cm_h (cm_w2 M (upd td m c) (nI (m + 1))))) :
    cw_W l mm_X3_findFault 0 0 (cm_h M0) r h1 0 0 14 [(4, .int (nI 0)), (3, .int c), (2, .int d), (1, .int (nI b)), (0, .ref 0)] [] (cm_h (cm_w2 M td (nI m))) := by
  have z0 : nI 0 = 0 := rfl
  have ac := cm_character l (cm_w2 M (upd td m c) (nI (m + 1))) (k := b) hN h60 (by omega)
  rw [← nI_add m 1] at ac k1 k2 k3
  by_cases e : b = N
  · obtain ⟨rfl, rfl⟩ := k1 e
    exact cw_run cw_kX3_findFault cw_z 19 [true, false] [_] [] (And.intro (z0) (And.intro (rfl) (And.intro (hm) (And.intro ((fun q => q (show nI b = M.2.2.2.2.2.2.2.1 by rw [hN, e]))) (cw_reti cw_kX3_findFault cw_z rfl rfl)))))
  · have n1 : ¬ nI b = M.2.2.2.2.2.2.2.1 := by rw [hN]; exact fun q => e ((nI_eq (by omega) (by omega)).mp q)
    by_cases f : cm_ch (cm_pd M) N b = nI 59
    · have k := k3 e f
      rw [← nI_add b 1] at k
      exact cw_run cw_kX3_findFault cw_z 31 [true, true, true] [_] [(_, _)] (And.intro (z0) (And.intro (rfl) (And.intro (hm) (And.intro (n1) (And.intro (ac) (And.intro (Nat.le_refl _) (And.intro (f) (cw_less [0, 1, 2, 3, 4] rfl k))))))))
    · obtain ⟨rfl, rfl⟩ := k2 e f
      exact cw_run cw_kX3_findFault cw_z 24 [true, true, false] [_] [(_, _)] (And.intro (z0) (And.intro (rfl) (And.intro (hm) (And.intro (n1) (And.intro (ac) (And.intro (Nat.le_refl _) (And.intro (f) (cw_reti cw_kX3_findFault cw_z rfl rfl))))))))
theorem cm_ff_loop (l : Launch) (M0 M : cm_S) {N : Nat} (hN : M.2.2.2.2.2.2.2.1 = nI N) (h60 : N ≤ 60) : ∀ n a L c m td, N < a + 2 * n → a ≤ N → 2 * m ≤ a → ¬ L < 0 ∧ L ≤ nI 9 → cw_W l mm_X3_findFault 0 0 (cm_h M0) (some (.int (cm_ff (cm_ch (cm_pd M) N) N n a L c m td).1)) (cm_h (cm_w2 M (cm_ff (cm_ch (cm_pd M) N) N n a L c m td).2.1 (nI (cm_ff (cm_ch (cm_pd M) N) N n a L c m td).2.2))) 0 0 14 [(4, .int (nI 1)), (3, .int c), (2, .int L), (1, .int (nI a)), (0, .ref 0)] [] (cm_h (cm_w2 M td (nI m))) := by
  intro n
  induction n with
  | zero => intro a L c m td h1 h2 _ _; omega
  | succ n ih =>
    intro a L c m td h1 h2 h3 hL
    have ac0 := cm_character l (cm_w2 M td (nI m)) (k := a) hN h60 (by omega)
    have n1 : ¬ nI 1 = 0 := by decide
    -- from pc 49 on
    have hB : ∀ (z : Bool) (a1 : Nat), z = decide (cm_ch (cm_pd M) N a = nI 45) → a1 = a + (if cm_ch (cm_pd M) N a = nI 45 then 1 else 0) → cw_W l mm_X3_findFault 0 0 (cm_h M0) (some (.int (cm_ff (cm_ch (cm_pd M) N) N (n + 1) a L c m td).1)) (cm_h (cm_w2 M (cm_ff (cm_ch (cm_pd M) N) N (n + 1) a L c m td).2.1 (nI (cm_ff (cm_ch (cm_pd M) N) N (n + 1) a L c m td).2.2))) 0 0 49 [(1, .int (nI a1)), (5, .int (cb_n z)), (4, .int (nI 1)), (3, .int c), (2, .int L), (0, .ref 0)] [] (cm_h (cm_w2 M td (nI m))) := by
      intro z a1 hz ha1
      have hale : a ≤ a1 := by rw [ha1]; exact Nat.le_add_right _ _
      have hale2 : a1 ≤ a + 1 := by rw [ha1]; split <;> omega
      unfold cm_ff
      rw [← ha1, ← hz]
      have ac1 := cm_character l (cm_w2 M td (nI m)) (k := a1) hN h60 (by omega)
      have ac2 := cm_character l (cm_w2 M td (nI m)) (k := a1 + 1) hN h60 (by omega)
      rw [← nI_add a1 1] at ac2
      cases w : cb_wi (cm_ch (cm_pd M) N a1 - nI 48) (L + nI 1) (nI 9) with
      | false =>
        rw [if_neg (by decide)]
        exact cw_run cw_kX3_findFault cw_z 14 [false] [] [(_, _), (_, _)] (And.intro (ac1) (And.intro (Nat.le_refl _) (And.intro (cm_within l _ _ _ _) (And.intro (Nat.le_refl _) (And.intro ((fun q => q (cb_n0.mpr w))) (cw_reti cw_kX3_findFault cw_z rfl rfl))))))
      | true =>
        rw [if_pos rfl]
        have hlt := cm_wi_lt hL w
        -- from pc 96 on
        have hC : ∀ r h1', (∀ X, X = (if cm_ch (cm_pd M) N (a1 + 1) = nI 44 ∧ cm_ch (cm_pd M) N a1 - nI 48 < nI 9 then cm_ff (cm_ch (cm_pd M) N) N n (a1 + 2) (cm_ch (cm_pd M) N a1 - nI 48) (cm_cc c (cm_ch (cm_pd M) N a1 - nI 48) z) m td else if a1 + 1 = N then (-nI 6, upd td m (cm_cc c (cm_ch (cm_pd M) N a1 - nI 48) z), m + 1) else if cm_ch (cm_pd M) N (a1 + 1) = nI 59 then cm_ff (cm_ch (cm_pd M) N) N n (a1 + 2) (nI 0) (nI 0) (m + 1) (upd td m (cm_cc c (cm_ch (cm_pd M) N a1 - nI 48) z)) else (nI (a1 + 1), upd td m (cm_cc c (cm_ch (cm_pd M) N a1 - nI 48) z), m + 1)) → r = some (.int X.1) ∧ h1' = cm_h (cm_w2 M X.2.1 (nI X.2.2))) → cw_W l mm_X3_findFault 0 0 (cm_h M0) r h1' 0 0 96 [(3, .int (cm_cc c (cm_ch (cm_pd M) N a1 - nI 48) z)), (1, .int (nI a1 + nI 1)), (6, .int (cm_ch (cm_pd M) N a1 - nI 48)), (5, .int (cb_n z)), (4, .int (nI 1)), (2, .int L), (0, .ref 0)] [] (cm_h (cm_w2 M td (nI m))) := by
          intro r h1' hX
          obtain ⟨hw1, hw2⟩ : ¬ (cm_ch (cm_pd M) N a1 - nI 48) < 0 ∧ (cm_ch (cm_pd M) N a1 - nI 48) ≤ nI 9 := by
            unfold cb_wi at w
            have w2 := of_decide_eq_true w
            obtain ⟨j, hj, e⟩ := nI_of hL.1
            have hj9 : j ≤ 9 := by
              rcases Nat.lt_or_ge 9 j with z | z
              · exact absurd hL.2 (by rw [e]; exact nI_ge z hj)
              · exact z
            refine ⟨fun q => w2.1 ?_, Int32.not_lt.mp w2.2⟩
            rw [e, nI_add]
            exact Int32.lt_of_lt_of_le q (nI_pos' (by omega))
          generalize cm_ch (cm_pd M) N a1 - nI 48 = d at hX hw1 hw2 ⊢
          generalize cm_cc c d z = c2 at hX ⊢
          by_cases m44 : cm_ch (cm_pd M) N (a1 + 1) = nI 44 ∧ d < nI 9
          · obtain ⟨rfl, rfl⟩ := hX _ (if_pos m44).symm
            have hlt2 : a1 + 1 < N := cm_ch_lt (f := cm_pd M) (fun q => by rw [m44.1] at q; revert q; decide)
            have ih1 := ih (a1 + 2) d c2 m td (by omega) (by omega) (by omega) ⟨hw1, hw2⟩
            rw [show a1 + 2 = a1 + 1 + 1 from rfl, ← nI_add (a1 + 1) 1, ← nI_add a1 1] at ih1
            rw [show a1 + 2 = a1 + 1 + 1 from rfl]
            exact cw_run cw_kX3_findFault cw_z 21 [false, false, false] [] [(_, _)] (And.intro (ac2) (And.intro (Nat.le_refl _) (And.intro ((fun q => q m44.1)) (And.intro ((show ¬ nI 9 ≤ d from Int32.not_le.mpr m44.2)) (And.intro (n1) (cw_less [1, 3, 2, 0, 6] rfl ih1))))))
          · rw [if_neg m44] at hX
            have he := cm_ff_end l M0 M hN h60 (b := a1 + 1) (m := m) (by omega) (by omega) td c2 d (r := r) (h1 := h1')
              (fun q => hX _ (if_pos q).symm) (fun q1 q2 => hX _ ((if_neg q1).trans (if_neg q2)).symm) (fun q1 q2 => by
                obtain ⟨rfl, rfl⟩ := hX _ ((if_neg q1).trans (if_pos q2)).symm
                have hlt2 : a1 + 1 < N := by omega
                exact ih (a1 + 1 + 1) (nI 0) (nI 0) (m + 1) (upd td m c2) (by omega) (by omega) (by omega) ⟨by decide, by decide⟩)
            rw [← Nat.add_zero (a1 + 1), ← nI_add (a1 + 1) 0, ← nI_add a1 1] at he
            by_cases m1 : cm_ch (cm_pd M) N (a1 + 1) = nI 44
            · have d9 : nI 9 ≤ d := Int32.not_lt.mp (fun q => m44 ⟨m1, q⟩)
              exact cw_run cw_kX3_findFault cw_z 19 [false, true, true] [] [(_, _)] (And.intro (ac2) (And.intro (Nat.le_refl _) (And.intro ((fun q => q m1)) (And.intro (d9) (And.intro (rfl) (cw_less [1, 3, 2, 0, 6] rfl he))))))
            · exact cw_run cw_kX3_findFault cw_z 16 [true, true] [] [(_, _)] (And.intro (ac2) (And.intro (Nat.le_refl _) (And.intro (m1) (And.intro (rfl) (cw_less [1, 3, 2, 0, 6] rfl he)))))
        cases z with
        | true => exact cw_run cw_kX3_findFault cw_z 25 [true, false] [] [(_, _), (_, _)] (And.intro (ac1) (And.intro (Nat.le_refl _) (And.intro (cm_within l _ _ _ _) (And.intro (Nat.le_refl _) (And.intro (cb_nt.mpr w) (And.intro (cb_nt.mpr rfl) (hC _ _ (fun X hX => by subst hX; exact ⟨rfl, rfl⟩))))))))
        | false => exact cw_run cw_kX3_findFault cw_z 24 [true, true] [] [(_, _), (_, _)] (And.intro (ac1) (And.intro (Nat.le_refl _) (And.intro (cm_within l _ _ _ _) (And.intro (Nat.le_refl _) (And.intro (cb_nt.mpr w) (And.intro (cb_n0.mpr rfl) (hC _ _ (fun X hX => by subst hX; exact ⟨rfl, rfl⟩))))))))
    by_cases e : cm_ch (cm_pd M) N a = nI 45
    · have q := hB true (a + 1) (decide_eq_true e).symm (by rw [if_pos e])
      rw [← nI_add a 1] at q
      exact cw_run cw_kX3_findFault cw_z 17 [false, false, false] [] [(_, _)] (And.intro (n1) (And.intro (ac0) (And.intro (Nat.le_refl _) (And.intro ((fun q => q e)) (And.intro (n1) (q))))))
    · have q := hB false (a + 0) (decide_eq_false e).symm (by rw [if_neg e])
      rw [← nI_add a 0] at q
      exact cw_run cw_kX3_findFault cw_z 15 [false, true, true] [] [(_, _)] (And.intro (n1) (And.intro (ac0) (And.intro (Nat.le_refl _) (And.intro (e) (And.intro (rfl) (q))))))
def cm_fr (f : Nat → Int32) (N : Nat) (td : Nat → Int32) : Int32 × (Nat → Int32) × Nat := cm_ff (cm_ch f N) N 31 0 (nI 0) (nI 0) 0 td
theorem cm_findFault (l : Launch) (M : cm_S) {N : Nat} (hN : M.2.2.2.2.2.2.2.1 = nI N) (h60 : N ≤ 60) : cw_M l mm_X3_findFault 0 0 [.ref 0] (cm_h M) (some (.int (cm_fr (cm_pd M) N M.2.2.2.2.2.2.2.2.1).1)) (cm_h (cm_w2 M (cm_fr (cm_pd M) N M.2.2.2.2.2.2.2.2.1).2.1 (nI (cm_fr (cm_pd M) N M.2.2.2.2.2.2.2.2.1).2.2))) := by
  refine cw_enter cw_kX3_findFault (by decide) (Nat.le_of_ble_eq_true rfl) ?_
  exact cw_run cw_kX3_findFault cw_z 11 [] [] [] (cm_ff_loop l M M hN h60 31 0 (nI 0) (nI 0) 0 M.2.2.2.2.2.2.2.2.1 (by omega) (by omega) (by omega) ⟨by decide, by decide⟩)
def cm_blank : cw_H := [.inr (3, [.null, .null, .null, .int 0, .null, .null, .null, .int 0, .null, .int 0])]
def cm_z0 : Nat → Int32 := upd (upd (fun _ => 0) 0 (nI 4)) 1 (nI 10)
def cm_z : cm_S := (cm_an cm_z0 0, fun _ => 0, fun _ => 0, nI 0, fun _ => 0, fun _ => 0, fun _ => 0, nI 0, fun _ => 0, nI 0)
theorem cm_init (l : Launch) : cw_M l mm_X3_init 7 1184 [.ref 0] cm_blank none (cm_h cm_z) := by
  refine cw_enter cw_kX3_init (by decide) (Nat.le_of_ble_eq_true rfl) ?_
  refine cw_run cw_kX3_init (by decide) 4 [] [] [] (cw_newa 0 .int (Or.inl ⟨rfl, rfl⟩) cw_kX3_init (by decide) rfl (by decide) (cw_wfb_ok rfl) (by decide) (by decide) ?_)
  refine cw_run cw_kX3_init (by decide) 3 [] [] [] (cw_newa 0 .int (Or.inl ⟨rfl, rfl⟩) cw_kX3_init (by decide) rfl (by decide) (cw_wfb_ok rfl) (by decide) (by decide) ?_)
  refine cw_run cw_kX3_init (by decide) 3 [] [] [] (cw_newa 0 .int (Or.inl ⟨rfl, rfl⟩) cw_kX3_init (by decide) rfl (by decide) (cw_wfb_ok rfl) (by decide) (by decide) ?_)
  refine cw_run cw_kX3_init (by decide) 3 [] [] [] (cw_newa 0 .int (Or.inl ⟨rfl, rfl⟩) cw_kX3_init (by decide) rfl (by decide) (cw_wfb_ok rfl) (by decide) (by decide) ?_)
  refine cw_run cw_kX3_init (by decide) 3 [] [] [] (cw_newa 0 .int (Or.inl ⟨rfl, rfl⟩) cw_kX3_init (by decide) rfl (by decide) (cw_wfb_ok rfl) (by decide) (by decide) ?_)
  refine cw_run cw_kX3_init (by decide) 3 [] [] [] (cw_newa 0 .int (Or.inl ⟨rfl, rfl⟩) cw_kX3_init (by decide) rfl (by decide) (cw_wfb_ok rfl) (by decide) (by decide) ?_)
  refine cw_run cw_kX3_init (by decide) 3 [] [] [] (cw_newa 0 .int (Or.inl ⟨rfl, rfl⟩) cw_kX3_init (by decide) rfl (by decide) (cw_wfb_ok rfl) (by decide) (by decide) ?_)
  have ab := cm_beginsAnew l (cm_z0, fun _ => 0, fun _ => 0, nI 0, fun _ => 0, fun _ => 0, fun _ => 0, nI 0, fun _ => 0, nI 0) (t := 0) (show cm_z0 3 = nI 0 by unfold cm_z0; rw [pk_un (by omega), pk_un (by omega)]; rfl) (by omega)
  exact cw_run cw_kX3_init (by decide) 13 [] [_, _] [(_, _)] (And.intro (rfl) (And.intro (Nat.le_of_ble_eq_true rfl) (And.intro (rfl) (And.intro (Nat.le_of_ble_eq_true rfl) (And.intro (ab) (And.intro (Nat.le_refl _) ((cw_retv cw_kX3_init (by decide) rfl rfl))))))))
