/-! clauses of the pad told; constructors of the search and the pad -/
def cp_h2 (f : Nat → Int32) (len : Int32) (S : cs_S) : cw_H := cp_h f len ++ (cs_h S).map (cw_re (fun k => 2 + k)) ++ []
theorem cp_tell (l : Launch) (f : Nat → Int32) (len : Int32) (S : cs_S) (ht : cs_to S = nI (cs_t S)) (h20 : cs_t S < 20) (c : Int32) : cw_M l mm_X1_tell 0 0 [.ref 2, .int c] (cp_h2 f len S) none (cp_h2 f len (cs_tell S c)) :=
  cw_lift (cs_tell_ok l S ht h20 c) rfl (cp_h f len) [] (b := 2) rfl
theorem cp_characterAt2 (l : Launch) (f : Nat → Int32) (S : cs_S) {N x : Int32} {k : Nat} (e : x = nI k) (hk : k < 60) (hc : cp_c1 (f k)) : cw_M l mm_X0_characterAt 0 0 [.ref 0, .int x] (cp_h2 f N S) (some (.int (f k))) (cp_h2 f N S) := by
  subst e
  refine cw_enter cw_KX0_characterAt (by decide) (Nat.le_of_ble_eq_true rfl) ?_
  exact cw_run cw_kX0_characterAt cw_z 10 [false, false] [_] [] (And.intro (nI_pos (by omega)) (And.intro ((show ¬ nI 60 ≤ nI k from nI_ge hk (by omega))) (And.intro (rfl) (And.intro (hk) (cw_retc cw_kX0_characterAt cw_z rfl rfl hc)))))
/-- the pad's clauses told, from character i on, n more -/
def cp_tl (f : Nat → Int32) : Nat → Nat → Int32 → Bool → cs_S → cs_S
  | 0, _, c, _, S => cs_tell S c
  | n + 1, i, c, z, S => if cp_dg (f i) then cp_tl f n (i + 1) (c ||| cb_set (if z then cb_opp (f i - nI 48) else f i - nI 48)) (decide (f i = nI 45)) S else if f i = nI 59 then cp_tl f n (i + 1) (nI 0) (decide (f i = nI 45)) (cs_tell S c) else cp_tl f n (i + 1) c (decide (f i = nI 45)) S
/-- how many clauses come, from character i on, n more -/
def cp_sc (f : Nat → Int32) : Nat → Nat → Nat
  | 0, _ => 1
  | n + 1, i => cp_sc f n (i + 1) + (if f i = nI 59 then 1 else 0)
theorem cs_t_tell {S : cs_S} (ht : cs_to S = nI (cs_t S)) (h : cs_t S < 20) (c : Int32) : cs_t (cs_tell S c) = cs_t S + 1 ∧ cs_to (cs_tell S c) = nI (cs_t (cs_tell S c)) := by
  have e : cs_to (cs_tell S c) = nI (cs_t S + 1) := by
    show cs_to S + nI 1 = _
    rw [ht, nI_add]
  have e2 := cs_t_nI e (by omega)
  exact ⟨e2, by rw [e2]; exact e⟩
theorem cp_sc_pos (f : Nat → Int32) : ∀ n i, 1 ≤ cp_sc f n i
  | 0, _ => Nat.le_refl _
  | n + 1, i => Nat.le_trans (cp_sc_pos f n (i + 1)) (Nat.le_add_right _ _)
theorem cp_dg59 {c : Int32} (h : cp_dg c = true) : ¬ c = nI 59 := by
  rintro rfl
  revert h
  decide +kernel
theorem cp_dg45 {c : Int32} (h : cp_dg c = true) : ¬ c = nI 45 := by
  rintro rfl
  revert h
  decide +kernel
set_option maxHeartbeats 4000000 in
theorem cp_tl_loop (l : Launch) (f : Nat → Int32) (S0 : cs_S) {N : Nat} (hN : N ≤ 60) (hc : ∀ k, k < N → cp_c1 (f k)) : ∀ n i c z S, i + n = N → cs_to S = nI (cs_t S) → cs_t S + cp_sc f n i ≤ 20 → cw_W l mm_X0_tellClausesTo 0 0 (cp_h2 f (nI N) S0) none (cp_h2 f (nI N) (cp_tl f n i c z S)) 0 0 7 [(4, .int (nI i)), (3, .int (cb_n z)), (2, .int c), (0, .ref 0), (1, .ref 2)] [] (cp_h2 f (nI N) S) := by
  intro n
  induction n with
  | zero =>
    intro i c z S hi ht h20
    have h20' : cs_t S < 20 := by unfold cp_sc at h20; omega
    exact cw_run cw_kX0_tellClausesTo cw_z 7 [true] [] [(_, _)] (And.intro ((show nI N ≤ nI i from nI_le (by omega) (by omega))) (And.intro (cp_tell l f (nI N) S ht h20' c) (And.intro (Nat.le_refl _) (cw_retv cw_kX0_tellClausesTo cw_z rfl rfl))))
  | succ n ih =>
    intro i c z S hi ht h20
    have h0 : ¬ nI N ≤ nI i := nI_ge (by omega) (by omega)
    have h6 : i < 60 := by omega
    unfold cp_sc at h20
    cases b : cp_dg (f i) with
    | true =>
      have n59 := cp_dg59 b
      have n45 := cp_dg45 b
      rw [if_neg n59] at h20
      rw [show cp_tl f (n + 1) i c z S = cp_tl f n (i + 1) (c ||| cb_set (if z then cb_opp (f i - nI 48) else f i - nI 48)) false S by rw [cp_tl, if_pos b, decide_eq_false n45]]
      have ih1 := ih (i + 1) (c ||| cb_set (if z then cb_opp (f i - nI 48) else f i - nI 48)) false S (by omega) ht (by omega)
      rw [← nI_add i 1] at ih1
      cases z with
      | true => exact cw_run cw_kX0_tellClausesTo cw_z 32 [false, false, false, true] [] [(_, _), (_, _), (_, _), (_, _)] (And.intro (h0) (And.intro (cp_characterAt2 l f S rfl h6 (hc i (by omega))) (And.intro (Nat.le_refl _) (And.intro (cp_isDigit l _ _) (And.intro (Nat.le_refl _) (And.intro (cb_nt.mpr b) (And.intro (cb_nt.mpr rfl) (And.intro (cs_opposite l _ _) (And.intro (Nat.le_refl _) (And.intro (cs_setOf l _ _) (And.intro (Nat.le_refl _) (And.intro (n45) (cw_less [0, 1, 2, 5, 6] rfl ih1)))))))))))))
      | false => exact cw_run cw_kX0_tellClausesTo cw_z 30 [false, false, true, true] [] [(_, _), (_, _), (_, _)] (And.intro (h0) (And.intro (cp_characterAt2 l f S rfl h6 (hc i (by omega))) (And.intro (Nat.le_refl _) (And.intro (cp_isDigit l _ _) (And.intro (Nat.le_refl _) (And.intro (cb_nt.mpr b) (And.intro (cb_n0.mpr rfl) (And.intro (cs_setOf l _ _) (And.intro (Nat.le_refl _) (And.intro (n45) (cw_less [0, 1, 2, 5, 6] rfl ih1)))))))))))
    | false =>
      by_cases a : f i = nI 59
      · have n45 : ¬ f i = nI 45 := by rw [a]; decide
        rw [if_pos a] at h20
        have hp := cp_sc_pos f n (i + 1)
        obtain ⟨t1, t2⟩ := cs_t_tell ht (by omega) c
        rw [show cp_tl f (n + 1) i c z S = cp_tl f n (i + 1) (nI 0) false (cs_tell S c) by rw [cp_tl, if_neg (by rw [b]; decide), if_pos a, decide_eq_false n45]]
        have ih1 := ih (i + 1) (nI 0) false (cs_tell S c) (by omega) t2 (by omega)
        rw [← nI_add i 1] at ih1
        have at1 := cp_tell l f (nI N) S ht (by omega) c
        generalize cs_tell S c = S1 at at1 ih1 ⊢
        exact cw_run cw_kX0_tellClausesTo cw_z 26 [false, true, false, true] [] [(_, _), (_, _), (_, _)] (And.intro (h0) (And.intro (cp_characterAt2 l f S rfl h6 (hc i (by omega))) (And.intro (Nat.le_refl _) (And.intro (cp_isDigit l _ _) (And.intro (Nat.le_refl _) (And.intro (cb_n0.mpr b) (And.intro ((fun q => q a)) (And.intro (at1) (And.intro (Nat.le_refl _) (And.intro (n45) (cw_less [0, 1, 2, 4, 5] rfl ih1)))))))))))
      · rw [if_neg a] at h20
        rw [show cp_tl f (n + 1) i c z S = cp_tl f n (i + 1) c (decide (f i = nI 45)) S by rw [cp_tl, if_neg (by rw [b]; decide), if_neg a]]
        have ih1 := ih (i + 1) c (decide (f i = nI 45)) S (by omega) ht (by omega)
        rw [← nI_add i 1] at ih1
        by_cases d : f i = nI 45
        · rw [decide_eq_true d] at ih1 ⊢
          exact cw_run cw_kX0_tellClausesTo cw_z 22 [false, true, true, false] [] [(_, _), (_, _)] (And.intro (h0) (And.intro (cp_characterAt2 l f S rfl h6 (hc i (by omega))) (And.intro (Nat.le_refl _) (And.intro (cp_isDigit l _ _) (And.intro (Nat.le_refl _) (And.intro (cb_n0.mpr b) (And.intro (a) (And.intro ((fun q => q d)) (cw_less [0, 1, 3, 4, 5] rfl ih1)))))))))
        · rw [decide_eq_false d] at ih1 ⊢
          exact cw_run cw_kX0_tellClausesTo cw_z 21 [false, true, true, true] [] [(_, _), (_, _)] (And.intro (h0) (And.intro (cp_characterAt2 l f S rfl h6 (hc i (by omega))) (And.intro (Nat.le_refl _) (And.intro (cp_isDigit l _ _) (And.intro (Nat.le_refl _) (And.intro (cb_n0.mpr b) (And.intro (a) (And.intro (d) (cw_less [0, 1, 3, 4, 5] rfl ih1)))))))))
theorem cp_tellClausesTo (l : Launch) (f : Nat → Int32) (S : cs_S) {N : Nat} (hN : N ≤ 60) (hc : ∀ k, k < N → cp_c1 (f k)) (ht : cs_to S = nI (cs_t S)) (h20 : cs_t S + cp_sc f N 0 ≤ 20) : cw_M l mm_X0_tellClausesTo 0 0 [.ref 0, .ref 2] (cp_h2 f (nI N) S) none (cp_h2 f (nI N) (cp_tl f N 0 (nI 0) false S)) := by
  refine cw_enter cw_KX0_tellClausesTo (by decide) (Nat.le_of_ble_eq_true rfl) ?_
  exact cw_run cw_kX0_tellClausesTo cw_z 6 [] [] [] (cp_tl_loop l f S hN hc N 0 (nI 0) false S (by omega) ht h20)
/-- what a new object is: a search, a pad -/
def cs_z : cs_S := (nI 4, nI 10, nI 0, nI 0, nI 0, fun _ => 0, nI 0, fun _ => 0, fun _ => 0, fun _ => 0, nI 0, nI 0, nI 0, nI 0)
def cs_blank : cw_H := [.inr (1, [.int 0, .int 0, .int 0, .int 0, .int 0, .null, .int 0, .null, .null, .null, .int 0, .int 0, .int 0, .int 0])]
theorem cs_init (l : Launch) : cw_M l mm_X1_init 4 87 [.ref 0] cs_blank none (cs_h cs_z) := by
  refine cw_enter cw_KX1_init (by decide) (Nat.le_of_ble_eq_true rfl) ?_
  refine cw_run cw_kX1_init (by decide) 19 [] [] [] (cw_newa 0 .int (Or.inl ⟨rfl, rfl⟩) cw_kX1_init (by decide) rfl (by decide) (cw_wfb_ok rfl) (by decide) (by decide) ?_)
  refine cw_run cw_kX1_init (by decide) 6 [] [] [] (cw_newa 0 .int (Or.inl ⟨rfl, rfl⟩) cw_kX1_init (by decide) rfl (by decide) (cw_wfb_ok rfl) (by decide) (by decide) ?_)
  refine cw_run cw_kX1_init (by decide) 3 [] [] [] (cw_newa 0 .int (Or.inl ⟨rfl, rfl⟩) cw_kX1_init (by decide) rfl (by decide) (cw_wfb_ok rfl) (by decide) (by decide) ?_)
  refine cw_run cw_kX1_init (by decide) 3 [] [] [] (cw_newa 0 .int (Or.inl ⟨rfl, rfl⟩) cw_kX1_init (by decide) rfl (by decide) (cw_wfb_ok rfl) (by decide) (by decide) ?_)
  exact cw_run cw_kX1_init (by decide) 13 [] [] [] (cw_retv cw_kX1_init (by decide) rfl rfl)
theorem cp_init (l : Launch) : cw_M l mm_X0_init 1 60 [.ref 0] [.inr (0, [.null, .int 0])] none (cp_h (fun _ => 0) (nI 0)) := by
  refine cw_enter cw_KX0_init (by decide) (Nat.le_of_ble_eq_true rfl) ?_
  refine cw_run cw_kX0_init (by decide) 4 [] [] [] (cw_newa 1 .char (Or.inr ⟨rfl, rfl⟩) cw_kX0_init (by decide) rfl (by decide) (cw_wfb_ok rfl) (by decide) (by decide) ?_)
  exact cw_run cw_kX0_init (by decide) 4 [] [] [] (cw_retv cw_kX0_init (by decide) rfl rfl)

