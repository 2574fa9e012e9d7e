/-! the reference: the trail, the clauses, what a conflict gives -/
/-- what bounds the rows: t told clauses, n learned ones, g values; the things of the trail -/
def cm_B (f : Nat → Int32) (t n g : Nat) : Prop := (f 3 = nI t ∧ t ≤ 20) ∧ (f 4 = nI n ∧ n ≤ 40) ∧ (f 7 = nI g ∧ g ≤ 9) ∧ ∀ k, k < g → ∃ x, x ≤ 9 ∧ f (10 + k) = nI x
def cm_x (f : Nat → Int32) (k : Nat) : Nat := (f (10 + k)).toNatClampNeg
theorem cm_B_x {f : Nat → Int32} {t n g : Nat} (h : cm_B f t n g) {k : Nat} (hk : k < g) : cm_x f k ≤ 9 ∧ f (10 + k) = nI (cm_x f k) := by
  obtain ⟨x, h1, h2⟩ := h.2.2.2 k hk
  have : cm_x f k = x := by unfold cm_x; rw [h2, nI_clamp (by omega)]
  rw [this]
  exact ⟨h1, h2⟩
/-- the first half of going back: from place k on, n more; so many are left -/
def cm_gb (L : Int32) : Nat → Nat → Nat → (Nat → Int32) → Nat × (Nat → Int32)
  | 0, _, left, f => (left, f)
  | n + 1, k, left, f => if f (29 + cm_x f k) ≤ L then cm_gb L n (k + 1) (left + 1) (upd f (10 + left) (f (10 + k))) else cm_gb L n (k + 1) left (cm_fg f (cm_x f k))
/-- zeros behind the trail -/
def cm_zt (f : Nat → Int32) (a : Nat) : Nat → Nat → Int32 := fun i j => if 10 + a ≤ j ∧ j < 10 + i then nI 0 else f j
def cm_gbk (L : Int32) (g : Nat) (f : Nat → Int32) : Nat → Int32 := upd (upd (cm_zt (cm_gb L g 0 0 f).2 (cm_gb L g 0 0 f).1 9) 7 (nI (cm_gb L g 0 0 f).1)) 6 L
theorem cm_zt_0 (f : Nat → Int32) (a : Nat) : cm_zt f a a = f := by funext j; unfold cm_zt; rw [if_neg (by omega)]
theorem cm_zt_s (f : Nat → Int32) {a i : Nat} (h : a ≤ i) : upd (cm_zt f a i) (10 + i) (nI 0) = cm_zt f a (i + 1) := by
  funext j
  unfold upd cm_zt
  by_cases e : j = 10 + i
  · subst e; rw [if_pos rfl, if_pos (by omega)]
  · rw [if_neg e]
    by_cases q : 10 + a ≤ j ∧ j < 10 + i
    · rw [if_pos q, if_pos (by omega)]
    · rw [if_neg q, if_neg (by omega)]
theorem cm_gb_le (L : Int32) : ∀ n k left f, (cm_gb L n k left f).1 ≤ left + n
  | 0, _, _, _ => Nat.le_refl _
  | n + 1, k, left, f => by
    unfold cm_gb
    split
    · have := cm_gb_le L n (k + 1) (left + 1) (upd f (10 + left) (f (10 + k))); omega
    · have := cm_gb_le L n (k + 1) left (cm_fg f (cm_x f k)); omega
theorem cm_gb_loop2 (l : Launch) (M0 M : cm_S) (f : Nat → Int32) (L : Int32) (a : Nat) (ha : a ≤ 9) : ∀ n i, i + n = 9 → a ≤ i → cw_W l mm_X3_goBack 0 0 (cm_h M0) none (cm_h (cm_wst M (upd (upd (cm_zt f a 9) 7 (nI a)) 6 L))) 0 0 71 [(3, .int (nI i)), (2, .int (nI a)), (0, .ref 0), (1, .int L)] [] (cm_h (cm_wst M (cm_zt f a i))) := by
  intro n
  induction n with
  | zero =>
    intro i hi hl
    obtain rfl : i = 9 := by omega
    exact cw_run cw_kX3_goBack cw_z 13 [true] [_, _] [] (And.intro ((show nI 9 ≤ nI 9 from Int32.le_refl _)) (And.intro (rfl) (And.intro (Nat.le_of_ble_eq_true rfl) (And.intro (rfl) (And.intro (Nat.le_of_ble_eq_true rfl) (cw_retv cw_kX3_goBack cw_z rfl rfl))))))
  | succ n ih =>
    intro i hi hl
    have ih1 := ih (i + 1) (by omega) (by omega)
    rw [← nI_add i 1, ← cm_zt_s f hl] at ih1
    exact cw_run cw_kX3_goBack cw_z 12 [false] [_] [] (And.intro ((show ¬ nI 9 ≤ nI i from nI_ge (by omega) (by omega))) (And.intro (nI_add 10 i) (And.intro ((show 10 + i < 109 by omega)) (ih1))))
/-- along the first half: places from k on are as they were, and have things -/
def cm_go (g k left : Nat) (f : Nat → Int32) : Prop := left ≤ k ∧ f 7 = nI g ∧ ∀ j, k ≤ j → j < g → ∃ x, x ≤ 9 ∧ f (10 + j) = nI x
theorem cm_gb_loop1 (l : Launch) (M0 M : cm_S) (L : Int32) (g : Nat) (hg : g ≤ 9) (r : cw_H) : ∀ n k left f lv', k + n = g → cm_go g k left f → r = cm_h (cm_wst M (upd (upd (cm_zt (cm_gb L n k left f).2 (cm_gb L n k left f).1 9) 7 (nI (cm_gb L n k left f).1)) 6 L)) → cw_W l mm_X3_goBack 0 0 (cm_h M0) none r 0 0 4 ([(3, .int (nI k)), (2, .int (nI left)), (0, .ref 0), (1, .int L)] ++ lv') [] (cm_h (cm_wst M f)) := by
  intro n
  induction n with
  | zero =>
    intro k left f lv' hk hgo hr
    obtain ⟨h1, h2, -⟩ := hgo
    have q := cm_gb_loop2 l M0 M f L left (by omega) (9 - left) left (by omega) (Nat.le_refl _)
    rw [cm_zt_0] at q
    subst hr
    exact cw_run cw_kX3_goBack cw_z 8 [true] [_] [] (And.intro (rfl) (And.intro (Nat.le_of_ble_eq_true rfl) (And.intro ((show f 7 ≤ nI k by rw [h2]; exact nI_le (by omega) (by omega))) (cw_less [0, 1, 2, 3] rfl q))))
  | succ n ih =>
    intro k left f lv' hk hgo hr
    obtain ⟨h1, h2, h3⟩ := hgo
    obtain ⟨x, hx, hxk⟩ := h3 k (Nat.le_refl _) (by omega)
    have ex : cm_x f k = x := by unfold cm_x; rw [hxk, nI_clamp (by omega)]
    have h0 : ¬ f 7 ≤ nI k := by rw [h2]; exact nI_ge (by omega) (by omega)
    have e29 : nI 29 + f (10 + k) = nI (29 + x) := by rw [hxk, nI_add]
    refine cw_less [0, 1, 2, 3] rfl ?_
    by_cases c : f (29 + x) ≤ L
    · unfold cm_gb at hr
      rw [ex, if_pos c] at hr
      have ih1 := ih (k + 1) (left + 1) (upd f (10 + left) (f (10 + k))) [(4, .int (f (10 + k)))] (by omega) ⟨by omega, by rw [← h2]; exact pk_un (by omega), fun j hj hj2 => by rw [pk_un (by omega)]; exact h3 j (by omega) hj2⟩ hr
      rw [← nI_add k 1, ← nI_add left 1] at ih1
      exact cw_run cw_kX3_goBack cw_z 31 [false, true] [_, _, _, _] [] (And.intro (rfl) (And.intro (Nat.le_of_ble_eq_true rfl) (And.intro (h0) (And.intro (nI_add 10 k) (And.intro ((show 10 + k < 109 by omega)) (And.intro (e29) (And.intro ((show 29 + x < 109 by omega)) (And.intro (c) (And.intro (nI_add 10 left) (And.intro ((show 10 + left < 109 by omega)) (cw_less [0, 1, 3, 4, 2] rfl ih1)))))))))))
    · unfold cm_gb at hr
      rw [ex, if_neg c] at hr
      have ih1 := ih (k + 1) left (cm_fg f x) [(4, .int (f (10 + k)))] (by omega) ⟨by omega, by rw [← h2]; unfold cm_fg; rw [pk_un (by omega), pk_un (by omega), pk_un (by omega)], fun j hj hj2 => by unfold cm_fg; rw [pk_un (by omega), pk_un (by omega), pk_un (by omega)]; exact h3 j (by omega) hj2⟩ hr
      rw [← nI_add k 1] at ih1
      have af : cw_M l mm_X3_forget 0 0 [.ref 0, .int (f (10 + k))] (cm_h (cm_wst M f)) none (cm_h (cm_wst M (cm_fg f x))) := by
        rw [hxk]; exact cm_forget l (cm_wst M f) hx
      exact cw_run cw_kX3_goBack cw_z 27 [false, false] [_, _, _] [(_, _)] (And.intro (rfl) (And.intro (Nat.le_of_ble_eq_true rfl) (And.intro (h0) (And.intro (nI_add 10 k) (And.intro ((show 10 + k < 109 by omega)) (And.intro (e29) (And.intro ((show 29 + x < 109 by omega)) (And.intro (c) (And.intro (af) (And.intro (Nat.le_refl _) (cw_less [0, 2, 3, 4, 1] rfl ih1)))))))))))
theorem cm_goBack (l : Launch) (M : cm_S) (L : Int32) {t n g : Nat} (hB : cm_B (cm_st M) t n g) : cw_M l mm_X3_goBack 0 0 [.ref 0, .int L] (cm_h M) none (cm_h (cm_wst M (cm_gbk L g (cm_st M)))) := by
  refine cw_enter cw_kX3_goBack (by decide) (Nat.le_of_ble_eq_true rfl) ?_
  exact cw_run cw_kX3_goBack cw_z 4 [] [] [] (cm_gb_loop1 l M M L g hB.2.2.1.2 _ g 0 0 (cm_st M) [] (by omega) ⟨by omega, hB.2.2.1.1, fun j _ hj => hB.2.2.2 j hj⟩ rfl)
/-- a value given -/
def cm_gv (f : Nat → Int32) (g x : Nat) (v r : Int32) : Nat → Int32 := upd (upd (upd (upd (upd f (10 + g) (nI x)) 7 (nI (g + 1))) (19 + x) v) (29 + x) (f 6)) (39 + x) r
theorem cm_gives (l : Launch) (M : cm_S) {g x : Nat} (hg : cm_st M 7 = nI g) (h9 : g ≤ 8) (hx : x ≤ 9) (v r : Int32) : cw_M l mm_X3_gives 0 0 [.ref 0, .int (nI x), .int v, .int r] (cm_h M) none (cm_h (cm_wst M (cm_gv (cm_st M) g x v r))) := by
  refine cw_enter cw_kX3_gives (by decide) (Nat.le_of_ble_eq_true rfl) ?_
  have e1 : upd (cm_st M) (10 + g) (nI x) 7 = nI g := by rw [pk_un (by omega)]; exact hg
  have e6 : upd (upd (upd (cm_st M) (10 + g) (nI x)) 7 (nI (g + 1))) (19 + x) v 6 = cm_st M 6 := by rw [pk_un (by omega), pk_un (by omega), pk_un (by omega)]
  have e3 : cm_gv (cm_st M) g x v r = upd (upd (upd (upd (upd (cm_st M) (10 + g) (nI x)) 7 (upd (cm_st M) (10 + g) (nI x) 7 + nI 1)) (19 + x) v) (29 + x) (upd (upd (upd (cm_st M) (10 + g) (nI x)) 7 (upd (cm_st M) (10 + g) (nI x) 7 + nI 1)) (19 + x) v 6)) (39 + x) r := by
    rw [e1, nI_add, e6]; rfl
  rw [e3]
  exact cw_run cw_kX3_gives cw_z 42 [] [_, _, _, _, _, _, _, _] [] (And.intro (rfl) (And.intro (Nat.le_of_ble_eq_true rfl) (And.intro ((show nI 10 + cm_st M 7 = nI (10 + g) by rw [hg, nI_add])) (And.intro ((show 10 + g < 109 by omega)) (And.intro (rfl) (And.intro (Nat.le_of_ble_eq_true rfl) (And.intro (rfl) (And.intro (Nat.le_of_ble_eq_true rfl) (And.intro (nI_add 19 x) (And.intro ((show 19 + x < 109 by omega)) (And.intro (rfl) (And.intro (Nat.le_of_ble_eq_true rfl) (And.intro (nI_add 29 x) (And.intro ((show 29 + x < 109 by omega)) (And.intro (nI_add 39 x) (And.intro ((show 39 + x < 109 by omega)) (cw_retv cw_kX3_gives cw_z rfl rfl)))))))))))))))))
/-- the false clause, the following one with the lowest number: from number n - 1 down -/
def cm_fo (f : Nat → Int32) : Nat → Int32 → Int32
  | 0, a => a
  | n + 1, a => cm_fo f n (if cm_fa f (f (49 + n)) then nI n else a)
def cm_fw (f : Nat → Int32) : Nat → Int32 → Int32
  | 0, a => a
  | n + 1, a => cm_fw f n (if cm_opn f (f (49 + n)) = 1 ∧ cm_tru f (f (49 + n)) = false then nI n else a)
theorem cm_fo_loop (l : Launch) (M : cm_S) : ∀ n a, n ≤ 60 → cw_W l mm_X3_falseOne 0 0 (cm_h M) (some (.int (cm_fo (cm_st M) n a))) (cm_h M) 0 0 10 [(2, .int (nI n - nI 1)), (1, .int a), (0, .ref 0)] [] (cm_h M) := by
  intro n
  induction n with
  | zero =>
    intro a _
    exact cw_run cw_kX3_falseOne cw_z 3 [true] [] [] (And.intro ((show nI 0 - nI 1 < 0 by decide)) (cw_reti cw_kX3_falseOne cw_z rfl rfl))
  | succ n ih =>
    intro a hn
    have e0 : nI (n + 1) - nI 1 = nI n := by rw [pk_sub (by omega)]; rfl
    rw [e0]
    have h0 : ¬ nI n < 0 := nI_pos (by omega)
    cases b : cm_fa (cm_st M) (cm_st M (49 + n)) with
    | true =>
      rw [show cm_fo (cm_st M) (n + 1) a = cm_fo (cm_st M) n (nI n) by rw [cm_fo, if_pos b]]
      have ih1 := ih (nI n) (by omega)
      rw [← cb_m] at ih1
      exact cw_run cw_kX3_falseOne cw_z 16 [false, false] [_] [(_, _)] (And.intro (h0) (And.intro (nI_add 49 n) (And.intro ((show 49 + n < 109 by omega)) (And.intro (cm_isFalse l M _) (And.intro (Nat.le_refl _) (And.intro (cb_nt.mpr b) (ih1)))))))
    | false =>
      rw [show cm_fo (cm_st M) (n + 1) a = cm_fo (cm_st M) n a by rw [cm_fo, if_neg (by rw [b]; decide)]]
      have ih1 := ih a (by omega)
      rw [← cb_m] at ih1
      exact cw_run cw_kX3_falseOne cw_z 15 [false, true] [_] [(_, _)] (And.intro (h0) (And.intro (nI_add 49 n) (And.intro ((show 49 + n < 109 by omega)) (And.intro (cm_isFalse l M _) (And.intro (Nat.le_refl _) (And.intro (cb_n0.mpr b) (ih1)))))))
theorem cm_falseOne (l : Launch) (M : cm_S) {t n g : Nat} (hB : cm_B (cm_st M) t n g) : cw_M l mm_X3_falseOne 0 0 [.ref 0] (cm_h M) (some (.int (cm_fo (cm_st M) (t + n) (-nI 6)))) (cm_h M) := by
  refine cw_enter cw_kX3_falseOne (by decide) (Nat.le_of_ble_eq_true rfl) ?_
  obtain ⟨⟨ht, ht2⟩, ⟨hn, hn2⟩, -⟩ := hB
  have h1 := cm_fo_loop l M (t + n) (-nI 6) (by omega)
  rw [← nI_add, ← ht, ← hn] at h1
  exact cw_run cw_kX3_falseOne cw_z 7 [] [] [(_, _)] (And.intro (cm_clauses l M) (And.intro (Nat.le_refl _) (h1)))
theorem cm_fw_loop (l : Launch) (M : cm_S) : ∀ n a, n ≤ 60 → cw_W l mm_X3_followingOne 0 0 (cm_h M) (some (.int (cm_fw (cm_st M) n a))) (cm_h M) 0 0 10 [(2, .int (nI n - nI 1)), (1, .int a), (0, .ref 0)] [] (cm_h M) := by
  intro n
  induction n with
  | zero =>
    intro a _
    exact cw_run cw_kX3_followingOne cw_z 3 [true] [] [] (And.intro ((show nI 0 - nI 1 < 0 by decide)) (cw_reti cw_kX3_followingOne cw_z rfl rfl))
  | succ n ih =>
    intro a hn
    have e0 : nI (n + 1) - nI 1 = nI n := by rw [pk_sub (by omega)]; rfl
    rw [e0]
    have h0 : ¬ nI n < 0 := nI_pos (by omega)
    have hle : cm_opn (cm_st M) (cm_st M (49 + n)) ≤ 0 + 19 := cm_op_le (cm_st M) (cm_st M (49 + n)) 19 1 0
    by_cases a1 : cm_opn (cm_st M) (cm_st M (49 + n)) = 1
    · have a2 : nI (cm_op (cm_st M) (cm_st M (49 + n)) 19 1 0) = nI 1 := congrArg nI a1
      cases b : cm_tru (cm_st M) (cm_st M (49 + n)) with
      | true =>
        rw [show cm_fw (cm_st M) (n + 1) a = cm_fw (cm_st M) n a by rw [cm_fw, if_neg (by rw [b]; simp)]]
        have ih1 := ih a (by omega)
        rw [← cb_m] at ih1
        exact cw_run cw_kX3_followingOne cw_z 25 [false, false, true] [_, _] [(_, _), (_, _)] (And.intro (h0) (And.intro (nI_add 49 n) (And.intro ((show 49 + n < 109 by omega)) (And.intro (cm_openIn l M _) (And.intro (Nat.le_refl _) (And.intro ((fun q => q a2)) (And.intro (nI_add 49 n) (And.intro ((show 49 + n < 109 by omega)) (And.intro (cm_isTrue l M _) (And.intro (Nat.le_refl _) (And.intro (cb_nt.mpr b) (ih1))))))))))))
      | false =>
        rw [show cm_fw (cm_st M) (n + 1) a = cm_fw (cm_st M) n (nI n) by rw [cm_fw, if_pos ⟨a1, b⟩]]
        have ih1 := ih (nI n) (by omega)
        rw [← cb_m] at ih1
        exact cw_run cw_kX3_followingOne cw_z 26 [false, false, false] [_, _] [(_, _), (_, _)] (And.intro (h0) (And.intro (nI_add 49 n) (And.intro ((show 49 + n < 109 by omega)) (And.intro (cm_openIn l M _) (And.intro (Nat.le_refl _) (And.intro ((fun q => q a2)) (And.intro (nI_add 49 n) (And.intro ((show 49 + n < 109 by omega)) (And.intro (cm_isTrue l M _) (And.intro (Nat.le_refl _) (And.intro ((fun q => q (cb_n0.mpr b))) (ih1))))))))))))
    · have a2 : ¬ nI (cm_op (cm_st M) (cm_st M (49 + n)) 19 1 0) = nI 1 := fun q => a1 ((nI_eq (by omega) (by omega)).mp q)
      rw [show cm_fw (cm_st M) (n + 1) a = cm_fw (cm_st M) n a by rw [cm_fw, if_neg (fun q => a1 q.1)]]
      have ih1 := ih a (by omega)
      rw [← cb_m] at ih1
      exact cw_run cw_kX3_followingOne cw_z 16 [false, true] [_] [(_, _)] (And.intro (h0) (And.intro (nI_add 49 n) (And.intro ((show 49 + n < 109 by omega)) (And.intro (cm_openIn l M _) (And.intro (Nat.le_refl _) (And.intro (a2) (ih1)))))))
theorem cm_followingOne (l : Launch) (M : cm_S) {t n g : Nat} (hB : cm_B (cm_st M) t n g) : cw_M l mm_X3_followingOne 0 0 [.ref 0] (cm_h M) (some (.int (cm_fw (cm_st M) (t + n) (-nI 6)))) (cm_h M) := by
  refine cw_enter cw_kX3_followingOne (by decide) (Nat.le_of_ble_eq_true rfl) ?_
  obtain ⟨⟨ht, ht2⟩, ⟨hn, hn2⟩, -⟩ := hB
  have h1 := cm_fw_loop l M (t + n) (-nI 6) (by omega)
  rw [← nI_add, ← ht, ← hn] at h1
  exact cw_run cw_kX3_followingOne cw_z 7 [] [] [(_, _)] (And.intro (cm_clauses l M) (And.intro (Nat.le_refl _) (h1)))
/-- the lowest open thing, from thing n down -/
def cm_lw (f : Nat → Int32) : Nat → Int32 → Int32
  | 0, a => a
  | n + 1, a => cm_lw f n (if f (19 + (n + 1)) = -nI 6 then nI (n + 1) else a)
theorem cm_lw_loop (l : Launch) (M : cm_S) : ∀ n a, n ≤ 9 → cw_W l mm_X3_lowestOpen 0 0 (cm_h M) (some (.int (cm_lw (cm_st M) n a))) (cm_h M) 0 0 10 [(2, .int (nI n)), (1, .int a), (0, .ref 0)] [] (cm_h M) := by
  intro n
  induction n with
  | zero =>
    intro a _
    exact cw_run cw_kX3_lowestOpen cw_z 3 [true] [] [] (And.intro ((show nI 0 ≤ 0 by decide)) (cw_reti cw_kX3_lowestOpen cw_z rfl rfl))
  | succ n ih =>
    intro a hn
    have h0 : ¬ nI (n + 1) ≤ 0 := nI_nle (by omega) (by omega)
    have e1 : nI (n + 1) + -nI 1 = nI n := by rw [cb_m, pk_sub (by omega)]; rfl
    by_cases b : cm_st M (19 + (n + 1)) = -nI 6
    · rw [show cm_lw (cm_st M) (n + 1) a = cm_lw (cm_st M) n (nI (n + 1)) by rw [cm_lw, if_pos b]]
      have ih1 := ih (nI (n + 1)) (by omega)
      have ih2 : cw_W l mm_X3_lowestOpen 0 0 (cm_h M) (some (.int (cm_lw (cm_st M) n (nI (n + 1))))) (cm_h M) 0 0 10 [(2, .int (nI (n + 1) + -nI 1)), (1, .int (nI (n + 1))), (0, .ref 0)] [] (cm_h M) := by rw [e1]; exact ih1
      exact cw_run cw_kX3_lowestOpen cw_z 12 [false, false] [] [(_, _)] (And.intro (h0) (And.intro (cm_valueOf l M hn) (And.intro (Nat.le_refl _) (And.intro ((fun q => q b)) (ih2)))))
    · rw [show cm_lw (cm_st M) (n + 1) a = cm_lw (cm_st M) n a by rw [cm_lw, if_neg b]]
      have ih1 := ih a (by omega)
      have ih2 : cw_W l mm_X3_lowestOpen 0 0 (cm_h M) (some (.int (cm_lw (cm_st M) n a))) (cm_h M) 0 0 10 [(2, .int (nI (n + 1) + -nI 1)), (1, .int a), (0, .ref 0)] [] (cm_h M) := by rw [e1]; exact ih1
      exact cw_run cw_kX3_lowestOpen cw_z 11 [false, true] [] [(_, _)] (And.intro (h0) (And.intro (cm_valueOf l M hn) (And.intro (Nat.le_refl _) (And.intro (b) (ih2)))))
theorem cm_lowestOpen (l : Launch) (M : cm_S) {th : Nat} (ht : cm_st M 0 = nI th) (h9 : th ≤ 9) : cw_M l mm_X3_lowestOpen 0 0 [.ref 0] (cm_h M) (some (.int (cm_lw (cm_st M) th (-nI 6)))) (cm_h M) := by
  refine cw_enter cw_kX3_lowestOpen (by decide) (Nat.le_of_ble_eq_true rfl) ?_
  have h1 := cm_lw_loop l M th (-nI 6) h9
  rw [← ht] at h1
  exact cw_run cw_kX3_lowestOpen cw_z 7 [] [_] [] (And.intro (rfl) (And.intro (Nat.le_of_ble_eq_true rfl) (h1)))
