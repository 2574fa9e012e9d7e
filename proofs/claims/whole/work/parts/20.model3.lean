/-! the reference: what a conflict gives, room for it -/
/-- has the thing at a place of the trail the present level, and a sign in the clause? -/
def cm_at (f : Nat → Int32) (c : Int32) (k : Nat) : Bool := decide (f (29 + cm_x f k) = f 6) && !decide (cm_so c (cm_x f k) = -nI 6)
def cm_pi (f : Nat → Int32) (c : Int32) : Nat → Nat → Nat → Nat
  | 0, _, a => a
  | n + 1, k, a => cm_pi f c n (k + 1) (a + (if cm_at f c k then 1 else 0))
def cm_li (f : Nat → Int32) (c : Int32) : Nat → Nat → Int32 → Int32
  | 0, _, a => a
  | n + 1, k, a => cm_li f c n (k + 1) (if cm_at f c k then nI (cm_x f k) else a)
theorem cm_pi_loop (l : Launch) (M : cm_S) (c : Int32) {t nn g : Nat} (hB : cm_B (cm_st M) t nn g) : ∀ n k a, k + n = g → cw_W l mm_X3_presentIn 0 0 (cm_h M) (some (.int (nI (cm_pi (cm_st M) c n k a)))) (cm_h M) 0 0 4 [(3, .int (nI k)), (2, .int (nI a)), (0, .ref 0), (1, .int c)] [] (cm_h M) := by
  have hg := hB.2.2.1
  intro n
  induction n with
  | zero =>
    intro k a hk
    exact cw_run cw_kX3_presentIn cw_z 7 [true] [_] [] (And.intro (rfl) (And.intro (Nat.le_of_ble_eq_true rfl) (And.intro ((show cm_st M 7 ≤ nI k by rw [hg.1]; exact nI_le (by omega) (by omega))) (cw_reti cw_kX3_presentIn cw_z rfl rfl))))
  | succ n ih =>
    intro k a hk
    obtain ⟨hx, hxk⟩ := cm_B_x hB (k := k) (by omega)
    have h0 : ¬ cm_st M 7 ≤ nI k := by rw [hg.1]; exact nI_ge (by omega) (by omega)
    have e29 : nI 29 + cm_st M (10 + k) = nI (29 + cm_x (cm_st M) k) := by rw [hxk, nI_add]
    have aso : cw_M l mm_X3_signOf 0 0 [.int c, .int (cm_st M (10 + k))] (cm_h M) (some (.int (cm_so c (cm_x (cm_st M) k)))) (cm_h M) := by
      have := cm_signOf l (cm_h M) c hx
      rw [← hxk] at this
      exact this
    unfold cm_pi
    by_cases b : cm_st M (29 + cm_x (cm_st M) k) = cm_st M 6
    · by_cases d : cm_so c (cm_x (cm_st M) k) = -nI 6
      · rw [show cm_at (cm_st M) c k = false by simp [cm_at, d], if_neg (by decide)]
        have ih1 := ih (k + 1) (a + 0) (by omega)
        rw [← nI_add k 1, ← nI_add a 0] at ih1
        exact cw_run cw_kX3_presentIn cw_z 35 [false, false, true] [_, _, _, _] [(_, _)] (And.intro (rfl) (And.intro (Nat.le_of_ble_eq_true rfl) (And.intro (h0) (And.intro (nI_add 10 k) (And.intro ((show 10 + k < 109 by omega)) (And.intro (e29) (And.intro ((show 29 + cm_x (cm_st M) k < 109 by omega)) (And.intro (rfl) (And.intro (Nat.le_of_ble_eq_true rfl) (And.intro ((fun q => q b)) (And.intro (aso) (And.intro (Nat.le_refl _) (And.intro (d) (cw_less [0, 1, 3, 4] rfl ih1))))))))))))))
      · rw [show cm_at (cm_st M) c k = true by simp [cm_at, b, d], if_pos rfl]
        have ih1 := ih (k + 1) (a + 1) (by omega)
        rw [← nI_add k 1, ← nI_add a 1] at ih1
        exact cw_run cw_kX3_presentIn cw_z 36 [false, false, false] [_, _, _, _] [(_, _)] (And.intro (rfl) (And.intro (Nat.le_of_ble_eq_true rfl) (And.intro (h0) (And.intro (nI_add 10 k) (And.intro ((show 10 + k < 109 by omega)) (And.intro (e29) (And.intro ((show 29 + cm_x (cm_st M) k < 109 by omega)) (And.intro (rfl) (And.intro (Nat.le_of_ble_eq_true rfl) (And.intro ((fun q => q b)) (And.intro (aso) (And.intro (Nat.le_refl _) (And.intro (d) (cw_less [0, 1, 3, 4] rfl ih1))))))))))))))
    · rw [show cm_at (cm_st M) c k = false by simp [cm_at, b], if_neg (by decide)]
      have ih1 := ih (k + 1) (a + 0) (by omega)
      rw [← nI_add k 1, ← nI_add a 0] at ih1
      exact cw_run cw_kX3_presentIn cw_z 30 [false, true] [_, _, _, _] [] (And.intro (rfl) (And.intro (Nat.le_of_ble_eq_true rfl) (And.intro (h0) (And.intro (nI_add 10 k) (And.intro ((show 10 + k < 109 by omega)) (And.intro (e29) (And.intro ((show 29 + cm_x (cm_st M) k < 109 by omega)) (And.intro (rfl) (And.intro (Nat.le_of_ble_eq_true rfl) (And.intro (b) (cw_less [0, 1, 3, 4] rfl ih1)))))))))))
theorem cm_presentIn (l : Launch) (M : cm_S) (c : Int32) {t nn g : Nat} (hB : cm_B (cm_st M) t nn g) : cw_M l mm_X3_presentIn 0 0 [.ref 0, .int c] (cm_h M) (some (.int (nI (cm_pi (cm_st M) c g 0 0)))) (cm_h M) := by
  refine cw_enter cw_kX3_presentIn (by decide) (Nat.le_of_ble_eq_true rfl) ?_
  exact cw_run cw_kX3_presentIn cw_z 4 [] [] [] (cm_pi_loop l M c hB g 0 0 (by omega))
theorem cm_li_loop (l : Launch) (M : cm_S) (c : Int32) {t nn g : Nat} (hB : cm_B (cm_st M) t nn g) : ∀ n k a, k + n = g → cw_W l mm_X3_lastIn 0 0 (cm_h M) (some (.int (cm_li (cm_st M) c n k a))) (cm_h M) 0 0 5 [(3, .int (nI k)), (2, .int a), (0, .ref 0), (1, .int c)] [] (cm_h M) := by
  have hg := hB.2.2.1
  intro n
  induction n with
  | zero =>
    intro k a hk
    exact cw_run cw_kX3_lastIn cw_z 7 [true] [_] [] (And.intro (rfl) (And.intro (Nat.le_of_ble_eq_true rfl) (And.intro ((show cm_st M 7 ≤ nI k by rw [hg.1]; exact nI_le (by omega) (by omega))) (cw_reti cw_kX3_lastIn cw_z rfl rfl))))
  | succ n ih =>
    intro k a hk
    obtain ⟨hx, hxk⟩ := cm_B_x hB (k := k) (by omega)
    have h0 : ¬ cm_st M 7 ≤ nI k := by rw [hg.1]; exact nI_ge (by omega) (by omega)
    have e29 : nI 29 + cm_st M (10 + k) = nI (29 + cm_x (cm_st M) k) := by rw [hxk, nI_add]
    have aso : cw_M l mm_X3_signOf 0 0 [.int c, .int (cm_st M (10 + k))] (cm_h M) (some (.int (cm_so c (cm_x (cm_st M) k)))) (cm_h M) := by
      have := cm_signOf l (cm_h M) c hx
      rw [← hxk] at this
      exact this
    unfold cm_li
    by_cases b : cm_st M (29 + cm_x (cm_st M) k) = cm_st M 6
    · by_cases d : cm_so c (cm_x (cm_st M) k) = -nI 6
      · rw [show cm_at (cm_st M) c k = false by simp [cm_at, d], if_neg (by decide)]
        have ih1 := ih (k + 1) a (by omega)
        rw [← nI_add k 1] at ih1
        exact cw_run cw_kX3_lastIn cw_z 33 [false, false, true] [_, _, _, _] [(_, _)] (And.intro (rfl) (And.intro (Nat.le_of_ble_eq_true rfl) (And.intro (h0) (And.intro (nI_add 10 k) (And.intro ((show 10 + k < 109 by omega)) (And.intro (e29) (And.intro ((show 29 + cm_x (cm_st M) k < 109 by omega)) (And.intro (rfl) (And.intro (Nat.le_of_ble_eq_true rfl) (And.intro ((fun q => q b)) (And.intro (aso) (And.intro (Nat.le_refl _) (And.intro (d) (cw_less [0, 1, 3, 4] rfl ih1))))))))))))))
      · rw [show cm_at (cm_st M) c k = true by simp [cm_at, b, d], if_pos rfl, ← hxk]
        have ih1 := ih (k + 1) (cm_st M (10 + k)) (by omega)
        rw [← nI_add k 1] at ih1
        exact cw_run cw_kX3_lastIn cw_z 34 [false, false, false] [_, _, _, _] [(_, _)] (And.intro (rfl) (And.intro (Nat.le_of_ble_eq_true rfl) (And.intro (h0) (And.intro (nI_add 10 k) (And.intro ((show 10 + k < 109 by omega)) (And.intro (e29) (And.intro ((show 29 + cm_x (cm_st M) k < 109 by omega)) (And.intro (rfl) (And.intro (Nat.le_of_ble_eq_true rfl) (And.intro ((fun q => q b)) (And.intro (aso) (And.intro (Nat.le_refl _) (And.intro (d) (cw_less [0, 1, 3, 4] rfl ih1))))))))))))))
    · rw [show cm_at (cm_st M) c k = false by simp [cm_at, b], if_neg (by decide)]
      have ih1 := ih (k + 1) a (by omega)
      rw [← nI_add k 1] at ih1
      exact cw_run cw_kX3_lastIn cw_z 28 [false, true] [_, _, _, _] [] (And.intro (rfl) (And.intro (Nat.le_of_ble_eq_true rfl) (And.intro (h0) (And.intro (nI_add 10 k) (And.intro ((show 10 + k < 109 by omega)) (And.intro (e29) (And.intro ((show 29 + cm_x (cm_st M) k < 109 by omega)) (And.intro (rfl) (And.intro (Nat.le_of_ble_eq_true rfl) (And.intro (b) (cw_less [0, 1, 3, 4] rfl ih1)))))))))))
theorem cm_lastIn (l : Launch) (M : cm_S) (c : Int32) {t nn g : Nat} (hB : cm_B (cm_st M) t nn g) : cw_M l mm_X3_lastIn 0 0 [.ref 0, .int c] (cm_h M) (some (.int (cm_li (cm_st M) c g 0 (-nI 6)))) (cm_h M) := by
  refine cw_enter cw_kX3_lastIn (by decide) (Nat.le_of_ble_eq_true rfl) ?_
  exact cw_run cw_kX3_lastIn cw_z 4 [] [] [] (cm_li_loop l M c hB g 0 _ (by omega))
theorem cm_pi_ge (f : Nat → Int32) (c : Int32) : ∀ n k a, a ≤ cm_pi f c n k a
  | 0, _, _ => Nat.le_refl _
  | n + 1, k, a => by
    unfold cm_pi
    exact Nat.le_trans (Nat.le_add_right _ _) (cm_pi_ge f c n (k + 1) _)
theorem cm_pi_le (f : Nat → Int32) (c : Int32) : ∀ n k a, cm_pi f c n k a ≤ a + n
  | 0, _, _ => Nat.le_refl _
  | n + 1, k, a => by
    have h2 : (if cm_at f c k then 1 else 0) ≤ 1 := by split <;> omega
    have := cm_pi_le f c n (k + 1) (a + (if cm_at f c k then 1 else 0))
    unfold cm_pi
    omega
/-- the last one is a thing, where there is one -/
theorem cm_li_ok {f : Nat → Int32} {t nn g : Nat} (hB : cm_B f t nn g) (c : Int32) : ∀ n k a b, k + n = g → (b = 0 ∨ ∃ x, x ≤ 9 ∧ a = nI x) → 0 < cm_pi f c n k b → ∃ x, x ≤ 9 ∧ cm_li f c n k a = nI x
  | 0, k, a, b, hk, h, hp => by
    rcases h with h | h
    · unfold cm_pi at hp; omega
    · exact h
  | n + 1, k, a, b, hk, h, hp => by
    unfold cm_pi at hp
    unfold cm_li
    cases e : cm_at f c k with
    | true =>
      rw [if_pos rfl]
      rw [e, if_pos rfl] at hp
      exact cm_li_ok hB c n (k + 1) _ _ (by omega) (Or.inr ⟨_, (cm_B_x hB (by omega)).1, rfl⟩) hp
    | false =>
      rw [if_neg (by decide)]
      rw [e, if_neg (by decide)] at hp
      exact cm_li_ok hB c n (k + 1) _ _ (by omega) h hp
/-- a reason's clause lies in the row -/
def cm_R (f : Nat → Int32) : Prop := ∀ x, x ≤ 9 → ∃ j, j < 109 ∧ nI 49 + f (39 + x) = nI j
def cm_rc (f : Nat → Int32) (x : Int32) : Int32 := f (nI 49 + f (nI 39 + x).toNatClampNeg).toNatClampNeg
/-- the clause learnt out of a clause, in at most so many turns -/
def cm_ln (f : Nat → Int32) (g : Nat) : Nat → Int32 → Option Int32
  | 0, _ => none
  | N + 1, c => if cm_pi f c g 0 0 ≤ 1 then some c else cm_ln f g N (cm_wo c (cm_li f c g 0 (-nI 6)) ||| cm_wo (cm_rc f (cm_li f c g 0 (-nI 6))) (cm_li f c g 0 (-nI 6)))
theorem cm_ln_loop (l : Launch) (M : cm_S) (y r : Int32) {t nn g : Nat} (hB : cm_B (cm_st M) t nn g) (hR : cm_R (cm_st M)) : ∀ N c, cm_ln (cm_st M) g N c = some r → cw_W l mm_X3_learnt 0 0 (cm_h M) (some (.int r)) (cm_h M) 0 0 10 [(2, .int c), (0, .ref 0), (1, .int y)] [] (cm_h M) := by
  have hg := hB.2.2.1
  intro N
  induction N with
  | zero => intro c h; cases h
  | succ N ih =>
    intro c h
    unfold cm_ln at h
    have hle := cm_pi_le (cm_st M) c g 0 0
    by_cases d : cm_pi (cm_st M) c g 0 0 ≤ 1
    · rw [if_pos d] at h
      rw [← Option.some.inj h]
      exact cw_run cw_kX3_learnt cw_z 6 [true] [] [(_, _)] (And.intro (cm_presentIn l M c hB) (And.intro (Nat.le_refl _) (And.intro ((show nI (cm_pi (cm_st M) c g 0 0) ≤ nI 1 from nI_le d (by omega))) (cw_reti cw_kX3_learnt cw_z rfl rfl))))
    · rw [if_neg d] at h
      obtain ⟨x, hx, hxe⟩ := cm_li_ok hB c g 0 (-nI 6) 0 (by omega) (Or.inl rfl) (by omega)
      obtain ⟨j, hj, hje⟩ := hR x hx
      have e1 : nI 39 + cm_li (cm_st M) c g 0 (-nI 6) = nI (39 + x) := by rw [hxe, nI_add]
      have e2 : cm_rc (cm_st M) (cm_li (cm_st M) c g 0 (-nI 6)) = cm_st M j := by
        unfold cm_rc
        rw [e1, nI_clamp (by omega), hje, nI_clamp (by omega)]
      rw [e2] at h
      have ih1 := ih _ h
      exact cw_run cw_kX3_learnt cw_z 28 [false] [_, _] [(_, _), (_, _), (_, _), (_, _)] (And.intro (cm_presentIn l M c hB) (And.intro (Nat.le_refl _) (And.intro ((show ¬ nI (cm_pi (cm_st M) c g 0 0) ≤ nI 1 from nI_ge (by omega) (by omega))) (And.intro (cm_lastIn l M c hB) (And.intro (Nat.le_refl _) (And.intro (cm_without l _ _ _) (And.intro (Nat.le_refl _) (And.intro (e1) (And.intro ((show 39 + x < 109 by omega)) (And.intro (hje) (And.intro (hj) (And.intro (cm_without l _ _ _) (And.intro (Nat.le_refl _) (cw_less [0, 2, 3] rfl ih1))))))))))))))
theorem cm_learnt (l : Launch) (M : cm_S) {k : Nat} (hk : k < 60) {r : Int32} {t nn g : Nat} (hB : cm_B (cm_st M) t nn g) (hR : cm_R (cm_st M)) {N : Nat} (h : cm_ln (cm_st M) g N (cm_st M (49 + k)) = some r) : cw_M l mm_X3_learnt 0 0 [.ref 0, .int (nI k)] (cm_h M) (some (.int r)) (cm_h M) := by
  refine cw_enter cw_kX3_learnt (by decide) (Nat.le_of_ble_eq_true rfl) ?_
  exact cw_run cw_kX3_learnt cw_z 7 [] [_] [] (And.intro (nI_add 49 k) (And.intro ((show 49 + k < 109 by omega)) (cm_ln_loop l M (nI k) r hB hR N _ h)))
/-- the greatest level below the present one -/
def cm_lb (f : Nat → Int32) (c : Int32) : Nat → Nat → Int32 → Int32
  | 0, _, a => a
  | n + 1, k, a => cm_lb f c n (k + 1) (if f 6 ≤ f (29 + cm_x f k) then a else if f (29 + cm_x f k) ≤ a then a else if cm_so c (cm_x f k) = -nI 6 then a else f (29 + cm_x f k))
theorem cm_lb_loop (l : Launch) (M : cm_S) (c : Int32) {t nn g : Nat} (hB : cm_B (cm_st M) t nn g) : ∀ n k a, k + n = g → cw_W l mm_X3_levelBelow 0 0 (cm_h M) (some (.int (cm_lb (cm_st M) c n k a))) (cm_h M) 0 0 4 [(3, .int (nI k)), (2, .int a), (0, .ref 0), (1, .int c)] [] (cm_h M) := by
  have hg := hB.2.2.1
  intro n
  induction n with
  | zero =>
    intro k a hk
    exact cw_run cw_kX3_levelBelow cw_z 7 [true] [_] [] (And.intro (rfl) (And.intro (Nat.le_of_ble_eq_true rfl) (And.intro ((show cm_st M 7 ≤ nI k by rw [hg.1]; exact nI_le (by omega) (by omega))) (cw_reti cw_kX3_levelBelow cw_z rfl rfl))))
  | succ n ih =>
    intro k a hk
    obtain ⟨hx, hxk⟩ := cm_B_x hB (k := k) (by omega)
    have h0 : ¬ cm_st M 7 ≤ nI k := by rw [hg.1]; exact nI_ge (by omega) (by omega)
    have h10 : 10 + k < 109 := by omega
    have h29 : 29 + cm_x (cm_st M) k < 109 := by omega
    have e29 : nI 29 + cm_st M (10 + k) = nI (29 + cm_x (cm_st M) k) := by rw [hxk, nI_add]
    have aso : cw_M l mm_X3_signOf 0 0 [.int c, .int (cm_st M (10 + k))] (cm_h M) (some (.int (cm_so c (cm_x (cm_st M) k)))) (cm_h M) := by
      have := cm_signOf l (cm_h M) c hx
      rw [← hxk] at this
      exact this
    unfold cm_lb
    have ih1 := ih (k + 1) a (by omega)
    have ih2 := ih (k + 1) (cm_st M (29 + cm_x (cm_st M) k)) (by omega)
    rw [← nI_add k 1] at ih1 ih2
    by_cases b : cm_st M 6 ≤ cm_st M (29 + cm_x (cm_st M) k)
    · rw [if_pos b]
      exact cw_run cw_kX3_levelBelow cw_z 30 [false, true] [_, _, _, _] [] (And.intro (rfl) (And.intro (Nat.le_of_ble_eq_true rfl) (And.intro (h0) (And.intro (nI_add 10 k) (And.intro (h10) (And.intro (e29) (And.intro (h29) (And.intro (rfl) (And.intro (Nat.le_of_ble_eq_true rfl) (And.intro (b) (cw_less [0, 1, 4, 5] rfl ih1)))))))))))
    · rw [if_neg b]
      by_cases d : cm_st M (29 + cm_x (cm_st M) k) ≤ a
      · rw [if_pos d]
        exact cw_run cw_kX3_levelBelow cw_z 33 [false, false, true] [_, _, _, _] [] (And.intro (rfl) (And.intro (Nat.le_of_ble_eq_true rfl) (And.intro (h0) (And.intro (nI_add 10 k) (And.intro (h10) (And.intro (e29) (And.intro (h29) (And.intro (rfl) (And.intro (Nat.le_of_ble_eq_true rfl) (And.intro (b) (And.intro (d) (cw_less [0, 1, 4, 5] rfl ih1))))))))))))
      · rw [if_neg d]
        by_cases e : cm_so c (cm_x (cm_st M) k) = -nI 6
        · rw [if_pos e]
          exact cw_run cw_kX3_levelBelow cw_z 38 [false, false, false, true] [_, _, _, _] [(_, _)] (And.intro (rfl) (And.intro (Nat.le_of_ble_eq_true rfl) (And.intro (h0) (And.intro (nI_add 10 k) (And.intro (h10) (And.intro (e29) (And.intro (h29) (And.intro (rfl) (And.intro (Nat.le_of_ble_eq_true rfl) (And.intro (b) (And.intro (d) (And.intro (aso) (And.intro (Nat.le_refl _) (And.intro (e) (cw_less [0, 1, 4, 5] rfl ih1)))))))))))))))
        · rw [if_neg e]
          exact cw_run cw_kX3_levelBelow cw_z 39 [false, false, false, false] [_, _, _, _] [(_, _)] (And.intro (rfl) (And.intro (Nat.le_of_ble_eq_true rfl) (And.intro (h0) (And.intro (nI_add 10 k) (And.intro (h10) (And.intro (e29) (And.intro (h29) (And.intro (rfl) (And.intro (Nat.le_of_ble_eq_true rfl) (And.intro (b) (And.intro (d) (And.intro (aso) (And.intro (Nat.le_refl _) (And.intro (e) (cw_less [0, 1, 4, 5] rfl ih2)))))))))))))))
theorem cm_levelBelow (l : Launch) (M : cm_S) (c : Int32) {t nn g : Nat} (hB : cm_B (cm_st M) t nn g) : cw_M l mm_X3_levelBelow 0 0 [.ref 0, .int c] (cm_h M) (some (.int (cm_lb (cm_st M) c g 0 (nI 0)))) (cm_h M) := by
  refine cw_enter cw_kX3_levelBelow (by decide) (Nat.le_of_ble_eq_true rfl) ?_
  exact cw_run cw_kX3_levelBelow cw_z 4 [] [] [] (cm_lb_loop l M c hB g 0 _ (by omega))
def cm_ir (f : Nat → Int32) (c : Int32) : Nat → Nat → Bool → Bool
  | 0, _, a => a
  | n + 1, x, a => cm_ir f c n (x + 1) (a || decide (f (39 + x) = c))
theorem cm_ir_loop (l : Launch) (M : cm_S) (c : Int32) : ∀ n x a, x + n = 10 → cw_W l mm_X3_isReason 0 0 (cm_h M) (some (.int (cb_n (cm_ir (cm_st M) c n x a)))) (cm_h M) 0 0 4 [(3, .int (nI x)), (2, .int (cb_n a)), (0, .ref 0), (1, .int c)] [] (cm_h M) := by
  intro n
  induction n with
  | zero =>
    intro x a hx
    obtain rfl : x = 10 := by omega
    exact cw_run cw_kX3_isReason cw_z 4 [true] [] [] (And.intro ((show nI 9 < nI 10 from nI_lt (by omega) (by omega))) (cw_retz cw_kX3_isReason cw_z rfl rfl (cb_n01 _)))
  | succ n ih =>
    intro x a hx
    have h0 : ¬ nI 9 < nI x := nI_nlt (by omega) (by omega)
    have ih1 := fun b => ih (x + 1) b (by omega)
    rw [← nI_add x 1] at ih1
    unfold cm_ir
    cases a with
    | true =>
      rw [Bool.true_or]
      exact cw_run cw_kX3_isReason cw_z 10 [false, true] [] [] (And.intro (h0) (And.intro (cb_nt.mpr rfl) (ih1 true)))
    | false =>
      rw [Bool.false_or]
      by_cases e : cm_st M (39 + x) = c
      · rw [decide_eq_true e]
        exact cw_run cw_kX3_isReason cw_z 18 [false, false, false] [_] [] (And.intro (h0) (And.intro ((fun q => q (cb_n0.mpr rfl))) (And.intro (nI_add 39 x) (And.intro ((show 39 + x < 109 by omega)) (And.intro ((fun q => q e)) (ih1 true))))))
      · rw [decide_eq_false e]
        exact cw_run cw_kX3_isReason cw_z 17 [false, false, true] [_] [] (And.intro (h0) (And.intro ((fun q => q (cb_n0.mpr rfl))) (And.intro (nI_add 39 x) (And.intro ((show 39 + x < 109 by omega)) (And.intro (e) (ih1 false))))))
theorem cm_isReason (l : Launch) (M : cm_S) (c : Int32) : cw_M l mm_X3_isReason 0 0 [.ref 0, .int c] (cm_h M) (some (.int (cb_n (cm_ir (cm_st M) c 9 1 false)))) (cm_h M) := by
  refine cw_enter cw_kX3_isReason (by decide) (Nat.le_of_ble_eq_true rfl) ?_
  exact cw_run cw_kX3_isReason cw_z 4 [] [] [] (cm_ir_loop l M c 9 1 false (by omega))
/-- a learned clause dropped -/
def cm_sf (f : Nat → Int32) (k i : Nat) : Nat → Int32 := fun j => if 49 + k ≤ j ∧ j < 49 + i then f (j + 1) else f j
theorem cm_sf_k (f : Nat → Int32) (k : Nat) : cm_sf f k k = f := by funext j; unfold cm_sf; rw [if_neg (by omega)]
theorem cm_sf_s (f : Nat → Int32) {k i : Nat} (h : k ≤ i) : upd (cm_sf f k i) (49 + i) (cm_sf f k i (49 + i + 1)) = cm_sf f k (i + 1) := by
  funext j
  unfold upd cm_sf
  by_cases e : j = 49 + i
  · subst e; rw [if_pos rfl, if_neg (by omega), if_pos (by omega)]
  · rw [if_neg e]
    by_cases q : 49 + k ≤ j ∧ j < 49 + i
    · rw [if_pos q, if_pos (by omega)]
    · rw [if_neg q, if_neg (by omega)]
def cm_lr (f : Nat → Int32) (x : Int32) (i : Nat) : Nat → Int32 := fun j => if 40 ≤ j ∧ j < 39 + i ∧ x < f j then f j - nI 1 else f j
theorem cm_lr_1 (f : Nat → Int32) (x : Int32) : cm_lr f x 1 = f := by funext j; unfold cm_lr; rw [if_neg (by omega)]
theorem cm_lr_at (f : Nat → Int32) (x : Int32) (i : Nat) : cm_lr f x i (39 + i) = f (39 + i) := by unfold cm_lr; rw [if_neg (by omega)]
theorem cm_lr_s (f : Nat → Int32) (x : Int32) {i : Nat} (h : 1 ≤ i) : upd (cm_lr f x i) (39 + i) (f (39 + i) - (if x < f (39 + i) then nI 1 else nI 0)) = cm_lr f x (i + 1) := by
  funext j
  unfold upd cm_lr
  by_cases e : j = 39 + i
  · subst e
    rw [if_pos rfl]
    by_cases c : x < f (39 + i)
    · rw [if_pos c, if_pos ⟨by omega, by omega, c⟩]
    · rw [if_neg c, if_neg (fun q => c q.2.2)]
      exact Int32.sub_zero _
  · rw [if_neg e]
    by_cases q : 40 ≤ j ∧ j < 39 + i ∧ x < f j
    · rw [if_pos q, if_pos ⟨q.1, by omega, q.2.2⟩]
    · rw [if_neg q, if_neg (fun q2 => q ⟨q2.1, by omega, q2.2.2⟩)]
def cm_dr (f : Nat → Int32) (t n k : Nat) : Nat → Int32 := cm_lr (upd (upd (cm_sf f k (t + n - 1)) (49 + (t + n) - 1) (nI 0)) 4 (nI (n - 1))) (nI k) 10
theorem cm_dr_loop2 (l : Launch) (M0 M : cm_S) (f : Nat → Int32) (x : Int32) : ∀ n i, i + n = 10 → 1 ≤ i → cw_W l mm_X3_dropLearned 0 0 (cm_h M0) none (cm_h (cm_wst M (cm_lr f x 10))) 0 0 65 [(2, .int (nI i)), (0, .ref 0), (1, .int x)] [] (cm_h (cm_wst M (cm_lr f x i))) := by
  intro n
  induction n with
  | zero =>
    intro i hi _
    obtain rfl : i = 10 := by omega
    exact cw_run cw_kX3_dropLearned cw_z 3 [true] [] [] (And.intro ((show nI 9 < nI 10 from nI_lt (by omega) (by omega))) (cw_retv cw_kX3_dropLearned cw_z rfl rfl))
  | succ n ih =>
    intro i hi h1
    have h0 : ¬ nI 9 < nI i := nI_nlt (by omega) (by omega)
    have h39 : 39 + i < 109 := by omega
    have ih1 := ih (i + 1) (by omega) (by omega)
    rw [← nI_add i 1, ← cm_lr_s f x h1, ← cm_lr_at f x i] at ih1
    by_cases c : x < cm_lr f x i (39 + i)
    · rw [if_pos c] at ih1
      exact cw_run cw_kX3_dropLearned cw_z 24 [false, false] [_, _, _] [] (And.intro (h0) (And.intro (nI_add 39 i) (And.intro (h39) (And.intro (nI_add 39 i) (And.intro (h39) (And.intro ((show ¬ cm_lr f x i (39 + i) ≤ x from Int32.not_le.mpr c)) (And.intro (nI_add 39 i) (And.intro (h39) (ih1)))))))))
    · rw [if_neg c] at ih1
      exact cw_run cw_kX3_dropLearned cw_z 23 [false, true] [_, _, _] [] (And.intro (h0) (And.intro (nI_add 39 i) (And.intro (h39) (And.intro (nI_add 39 i) (And.intro (h39) (And.intro ((show cm_lr f x i (39 + i) ≤ x from Int32.not_lt.mp c)) (And.intro (nI_add 39 i) (And.intro (h39) (ih1)))))))))
theorem cm_dr_loop1 (l : Launch) (M0 M : cm_S) (f : Nat → Int32) (x : Int32) {t n k : Nat} (ht : f 3 = nI t ∧ t ≤ 20) (hn : f 4 = nI n ∧ n ≤ 40) (h1n : 1 ≤ n) (hk : k < t + n) : ∀ m i, i + m = t + n - 1 → k ≤ i → cw_W l mm_X3_dropLearned 0 0 (cm_h M0) none (cm_h (cm_wst M (cm_lr (upd (upd (cm_sf f k (t + n - 1)) (49 + (t + n) - 1) (nI 0)) 4 (nI (n - 1))) x 10))) 0 0 2 [(2, .int (nI i)), (0, .ref 0), (1, .int x)] [] (cm_h (cm_wst M (cm_sf f k i))) := by
  have s3 : ∀ i, cm_sf f k i 3 = nI t := fun i => by unfold cm_sf; rw [if_neg (by omega)]; exact ht.1
  have s4 : ∀ i, cm_sf f k i 4 = nI n := fun i => by unfold cm_sf; rw [if_neg (by omega)]; exact hn.1
  have e0 : ∀ i, cm_sf f k i 3 + cm_sf f k i 4 - nI 1 = nI (t + n - 1) := fun i => by rw [s3, s4, nI_add, pk_sub (by omega)]
  intro m
  induction m with
  | zero =>
    intro i hi hki
    obtain rfl : i = t + n - 1 := by omega
    have q := cm_dr_loop2 l M0 M (upd (upd (cm_sf f k (t + n - 1)) (49 + (t + n) - 1) (nI 0)) 4 (nI (n - 1))) x 9 1 (by omega) (by omega)
    rw [cm_lr_1] at q
    have e4 : upd (cm_sf f k (t + n - 1)) (49 + (t + n) - 1) (nI 0) 4 - nI 1 = nI (n - 1) := by rw [pk_un (by omega), s4, pk_sub h1n]
    have e5 : cm_wst M (upd (upd (cm_sf f k (t + n - 1)) (49 + (t + n) - 1) (nI 0)) 4 (nI (n - 1))) = cm_wst M (upd (upd (cm_sf f k (t + n - 1)) (49 + (t + n) - 1) (nI 0)) 4 (upd (cm_sf f k (t + n - 1)) (49 + (t + n) - 1) (nI 0) 4 - nI 1)) := by rw [e4]
    rw [e5] at q
    have ge : cm_sf f k (t + n - 1) 3 + cm_sf f k (t + n - 1) 4 - nI 1 ≤ nI (t + n - 1) := by rw [e0]; exact Int32.le_refl _
    exact cw_run cw_kX3_dropLearned cw_z 26 [true] [_, _, _] [(_, _), (_, _)] (And.intro (cm_clauses l (cm_wst M (cm_sf f k (t + n - 1)))) (And.intro (Nat.le_refl _) (And.intro (ge) (And.intro (cm_clauses l (cm_wst M (cm_sf f k (t + n - 1)))) (And.intro (Nat.le_refl _) (And.intro ((show nI 49 + (cm_sf f k (t + n - 1) 3 + cm_sf f k (t + n - 1) 4) - nI 1 = nI (49 + (t + n) - 1) by rw [s3, s4, nI_add, nI_add, pk_sub (by omega)])) (And.intro ((show 49 + (t + n) - 1 < 109 by omega)) (And.intro (rfl) (And.intro (Nat.le_of_ble_eq_true rfl) (And.intro (rfl) (And.intro (Nat.le_of_ble_eq_true rfl) (q))))))))))))
  | succ m ih =>
    intro i hi hki
    have ih1 := ih (i + 1) (by omega) (by omega)
    rw [← nI_add i 1, ← cm_sf_s f hki] at ih1
    have lt : ¬ cm_sf f k i 3 + cm_sf f k i 4 - nI 1 ≤ nI i := by rw [e0]; exact nI_ge (by omega) (by omega)
    exact cw_run cw_kX3_dropLearned cw_z 22 [false] [_, _] [(_, _)] (And.intro (cm_clauses l (cm_wst M (cm_sf f k i))) (And.intro (Nat.le_refl _) (And.intro (lt) (And.intro ((show nI 49 + nI i + nI 1 = nI (49 + i + 1) by rw [nI_add, nI_add])) (And.intro ((show 49 + i + 1 < 109 by omega)) (And.intro (nI_add 49 i) (And.intro ((show 49 + i < 109 by omega)) (ih1))))))))
theorem cm_dropLearned (l : Launch) (M : cm_S) {t n g k : Nat} (hB : cm_B (cm_st M) t n g) (h1n : 1 ≤ n) (hk : k < t + n) : cw_M l mm_X3_dropLearned 0 0 [.ref 0, .int (nI k)] (cm_h M) none (cm_h (cm_wst M (cm_dr (cm_st M) t n k))) := by
  refine cw_enter cw_kX3_dropLearned (by decide) (Nat.le_of_ble_eq_true rfl) ?_
  have h1 := cm_dr_loop1 l M M (cm_st M) (nI k) hB.1 hB.2.1 h1n hk (t + n - 1 - k) k (by omega) (Nat.le_refl _)
  rw [cm_sf_k] at h1
  exact cw_run cw_kX3_dropLearned cw_z 2 [] [] [] h1
/-- the learned clause that is to go: from number t + m - 1 down to t -/
def cm_mk (f : Nat → Int32) (t : Nat) : Nat → Int32 → Int32
  | 0, a => a
  | m + 1, a => cm_mk f t m (if cm_ir f (nI (t + m)) 9 1 false then a else nI (t + m))
theorem cm_mk_loop (l : Launch) (M : cm_S) {t n g k : Nat} (hB : cm_B (cm_st M) t n g) (h1n : 1 ≤ n) (hk : k < t + n) : ∀ m a, m ≤ n → cm_mk (cm_st M) t m a = nI k → cw_W l mm_X3_makeRoom 0 0 (cm_h M) none (cm_h (cm_wst M (cm_dr (cm_st M) t n k))) 0 0 10 [(2, .int (nI (t + m) - nI 1)), (1, .int a), (0, .ref 0)] [] (cm_h M) := by
  have ht := hB.1
  have hn := hB.2.1
  intro m
  induction m with
  | zero =>
    intro a _ h
    unfold cm_mk at h
    subst h
    have lt : nI (t + 0) - nI 1 < cm_st M 3 := by
      rw [ht.1, Nat.add_zero]
      rcases Nat.eq_zero_or_pos t with z | z
      · subst z; decide
      · rw [pk_sub z]; exact nI_lt (by omega) (by omega)
    exact cw_run cw_kX3_makeRoom cw_z 9 [true] [_] [(_, _)] (And.intro (rfl) (And.intro (Nat.le_of_ble_eq_true rfl) (And.intro (lt) (And.intro (cm_dropLearned l M hB h1n hk) (And.intro (Nat.le_refl _) (cw_retv cw_kX3_makeRoom cw_z rfl rfl))))))
  | succ m ih =>
    intro a hm h
    unfold cm_mk at h
    have e0 : nI (t + (m + 1)) - nI 1 = nI (t + m) := by rw [pk_sub (by omega)]; rfl
    rw [e0]
    have ge : ¬ nI (t + m) < cm_st M 3 := by rw [ht.1]; exact nI_nlt (by omega) (by omega)
    cases b : cm_ir (cm_st M) (nI (t + m)) 9 1 false with
    | true =>
      rw [b, if_pos rfl] at h
      have ih1 := ih a (by omega) h
      rw [← cb_m] at ih1
      exact cw_run cw_kX3_makeRoom cw_z 15 [false, false] [_] [(_, _)] (And.intro (rfl) (And.intro (Nat.le_of_ble_eq_true rfl) (And.intro (ge) (And.intro (cm_isReason l M _) (And.intro (Nat.le_refl _) (And.intro (cb_nt.mpr b) (ih1)))))))
    | false =>
      rw [b, if_neg (by decide)] at h
      have ih1 := ih (nI (t + m)) (by omega) h
      rw [← cb_m] at ih1
      exact cw_run cw_kX3_makeRoom cw_z 14 [false, true] [_] [(_, _)] (And.intro (rfl) (And.intro (Nat.le_of_ble_eq_true rfl) (And.intro (ge) (And.intro (cm_isReason l M _) (And.intro (Nat.le_refl _) (And.intro (cb_n0.mpr b) (ih1)))))))
theorem cm_makeRoom (l : Launch) (M : cm_S) {t n g k : Nat} (hB : cm_B (cm_st M) t n g) (h1n : 1 ≤ n) (hk : k < t + n) (h : cm_mk (cm_st M) t n (-nI 6) = nI k) : cw_M l mm_X3_makeRoom 0 0 [.ref 0] (cm_h M) none (cm_h (cm_wst M (cm_dr (cm_st M) t n k))) := by
  refine cw_enter cw_kX3_makeRoom (by decide) (Nat.le_of_ble_eq_true rfl) ?_
  have h1 := cm_mk_loop l M hB h1n hk n (-nI 6) (Nat.le_refl _) h
  rw [← nI_add, ← hB.1.1, ← hB.2.1.1] at h1
  exact cw_run cw_kX3_makeRoom cw_z 7 [] [] [(_, _)] (And.intro (cm_clauses l M) (And.intro (Nat.le_refl _) (h1)))
