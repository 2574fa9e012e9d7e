/-! the reference: beginning anew, states moved and kept, what is asked of a clause -/
def cm_zc (f : Nat → Int32) (t i : Nat) : Nat → Int32 := fun j => if 49 + t ≤ j ∧ j < 49 + i then nI 0 else f j
theorem cm_zc_t (f : Nat → Int32) (t : Nat) : cm_zc f t t = f := by funext j; unfold cm_zc; rw [if_neg (by omega)]
theorem cm_zc_s (f : Nat → Int32) {t i : Nat} (h : t ≤ i) : upd (cm_zc f t i) (49 + i) (nI 0) = cm_zc f t (i + 1) := by
  funext j
  unfold upd cm_zc
  by_cases e : j = 49 + i
  · subst e; rw [if_pos rfl, if_pos (by omega)]
  · rw [if_neg e]
    by_cases q : 49 + t ≤ j ∧ j < 49 + i
    · rw [if_pos q, if_pos (by omega)]
    · rw [if_neg q, if_neg (by omega)]
def cm_an0 (f : Nat → Int32) (t : Nat) : Nat → Int32 := upd (upd (upd (upd (cm_zc (upd f 4 (nI 0)) t 60) 8 (nI 0)) 9 (nI 0)) 5 (nI 0)) 7 (nI 0)
def cm_fgs (f : Nat → Int32) : Nat → Nat → Int32
  | 0 => f
  | n + 1 => cm_fg (cm_fgs f n) n
def cm_an (f : Nat → Int32) (t : Nat) : Nat → Int32 := cm_gbk (nI 0) 0 (cm_fgs (cm_an0 f t) 10)
theorem cm_fgs_lo (f : Nat → Int32) {j : Nat} (h : j < 19) : ∀ n, cm_fgs f n j = f j
  | 0 => rfl
  | n + 1 => by
    unfold cm_fgs cm_fg
    rw [pk_un (by omega), pk_un (by omega), pk_un (by omega)]
    exact cm_fgs_lo f h n
theorem cm_an_B {f : Nat → Int32} {t : Nat} (ht : f 3 = nI t) (h20 : t ≤ 20) : cm_B (cm_fgs (cm_an0 f t) 10) t 0 0 := by
  have e : ∀ j, j < 19 → cm_fgs (cm_an0 f t) 10 j = cm_an0 f t j := fun j hj => cm_fgs_lo _ hj 10
  have z : ∀ j, j < 49 → cm_zc (upd f 4 (nI 0)) t 60 j = upd f 4 (nI 0) j := fun j hj => by unfold cm_zc; rw [if_neg (by omega)]
  refine ⟨⟨?_, h20⟩, ⟨?_, by omega⟩, ⟨?_, by omega⟩, fun k hk => absurd hk (by omega)⟩
  · rw [e 3 (by omega)]; unfold cm_an0; rw [pk_un (by omega), pk_un (by omega), pk_un (by omega), pk_un (by omega), z 3 (by omega), pk_un (by omega)]; exact ht
  · rw [e 4 (by omega)]; unfold cm_an0; rw [pk_un (by omega), pk_un (by omega), pk_un (by omega), pk_un (by omega), z 4 (by omega), pk_us]
  · rw [e 7 (by omega)]; unfold cm_an0; rw [pk_us]
theorem cm_an_loop2 (l : Launch) (M0 M : cm_S) (f : Nat → Int32) {t : Nat} (ht : f 3 = nI t) (h20 : t ≤ 20) : ∀ n i, i + n = 10 → cw_W l mm_X3_beginsAnew 0 0 (cm_h M0) none (cm_h (cm_wst M (cm_an f t))) 0 0 69 [(1, .int (nI i)), (0, .ref 0)] [] (cm_h (cm_wst M (cm_fgs (cm_an0 f t) i))) := by
  intro n
  induction n with
  | zero =>
    intro i hi
    obtain rfl : i = 10 := by omega
    have ag := cm_goBack l (cm_wst M (cm_fgs (cm_an0 f t) 10)) (nI 0) (cm_an_B ht h20)
    exact cw_run cw_kX3_beginsAnew cw_z 6 [true] [] [(_, _)] (And.intro ((show nI 10 ≤ nI 10 from Int32.le_refl _)) (And.intro (ag) (And.intro (Nat.le_refl _) (cw_retv cw_kX3_beginsAnew cw_z rfl rfl))))
  | succ n ih =>
    intro i hi
    have ih1 := ih (i + 1) (by omega)
    rw [← nI_add i 1] at ih1
    have af := cm_forget l (cm_wst M (cm_fgs (cm_an0 f t) i)) (x := i) (by omega)
    exact cw_run cw_kX3_beginsAnew cw_z 8 [false] [] [(_, _)] (And.intro ((show ¬ nI 10 ≤ nI i from nI_ge (by omega) (by omega))) (And.intro (af) (And.intro (Nat.le_refl _) (ih1))))
theorem cm_an_loop1 (l : Launch) (M0 M : cm_S) (f : Nat → Int32) {t : Nat} (ht : f 3 = nI t) (h20 : t ≤ 20) : ∀ n i, i + n = 60 → t ≤ i → cw_W l mm_X3_beginsAnew 0 0 (cm_h M0) none (cm_h (cm_wst M (cm_an f t))) 0 0 14 [(1, .int (nI i)), (0, .ref 0)] [] (cm_h (cm_wst M (cm_zc (upd f 4 (nI 0)) t i))) := by
  intro n
  induction n with
  | zero =>
    intro i hi _
    obtain rfl : i = 60 := by omega
    have q := cm_an_loop2 l M0 M f ht h20 10 0 (by omega)
    exact cw_run cw_kX3_beginsAnew cw_z 25 [true] [_, _, _, _] [] (And.intro ((show nI 60 ≤ nI 60 from Int32.le_refl _)) (And.intro (rfl) (And.intro (Nat.le_of_ble_eq_true rfl) (And.intro (rfl) (And.intro (Nat.le_of_ble_eq_true rfl) (And.intro (rfl) (And.intro (Nat.le_of_ble_eq_true rfl) (And.intro (rfl) (And.intro (Nat.le_of_ble_eq_true rfl) (q))))))))))
  | succ n ih =>
    intro i hi h
    have ih1 := ih (i + 1) (by omega) (by omega)
    rw [← nI_add i 1, ← cm_zc_s _ h] at ih1
    exact cw_run cw_kX3_beginsAnew cw_z 12 [false] [_] [] (And.intro ((show ¬ nI 60 ≤ nI i from nI_ge (by omega) (by omega))) (And.intro (nI_add 49 i) (And.intro ((show 49 + i < 109 by omega)) (ih1))))
theorem cm_beginsAnew (l : Launch) (M : cm_S) {t : Nat} (ht : cm_st M 3 = nI t) (h20 : t ≤ 20) : cw_M l mm_X3_beginsAnew 0 0 [.ref 0] (cm_h M) none (cm_h (cm_wst M (cm_an (cm_st M) t))) := by
  refine cw_enter cw_kX3_beginsAnew (by decide) (Nat.le_of_ble_eq_true rfl) ?_
  have q := cm_an_loop1 l M M (cm_st M) ht h20 (60 - t) t (by omega) (Nat.le_refl _)
  rw [cm_zc_t, ← ht] at q
  have e3 : upd (cm_st M) 4 (nI 0) 3 = cm_st M 3 := pk_un (by omega)
  rw [← e3] at q
  exact cw_run cw_kX3_beginsAnew cw_z 10 [] [_, _] [] (And.intro (rfl) (And.intro (Nat.le_of_ble_eq_true rfl) (And.intro (rfl) (And.intro (Nat.le_of_ble_eq_true rfl) (q)))))
/-- a state moved from row to row -/
def cm_2 (na nb : Nat) (F G : Nat → Int32) : cw_H := [.inl (0, na, .inl F), .inl (0, nb, .inl G)]
def cm_cp (F G : Nat → Int32) (a b i : Nat) : Nat → Int32 := fun j => if b ≤ j ∧ j < b + i then F (a + (j - b)) else G j
theorem cm_cp_0 (F G : Nat → Int32) (a b : Nat) : cm_cp F G a b 0 = G := by funext j; unfold cm_cp; rw [if_neg (by omega)]
theorem cm_cp_s (F G : Nat → Int32) (a b i : Nat) : upd (cm_cp F G a b i) (b + i) (F (a + i)) = cm_cp F G a b (i + 1) := by
  funext j
  unfold upd cm_cp
  by_cases e : j = b + i
  · subst e; rw [if_pos rfl, if_pos (by omega), show b + i - b = i by omega]
  · rw [if_neg e]
    by_cases q : b ≤ j ∧ j < b + i
    · rw [if_pos q, if_pos (by omega)]
    · rw [if_neg q, if_neg (by omega)]
theorem cm_mv_loop (l : Launch) {na nb a b : Nat} (F G : Nat → Int32) (ha : a + 109 ≤ na) (hb : b + 109 ≤ nb) (hna : na = 109 ∨ na = 654 ∨ na = 218) (hnb : nb = 109 ∨ nb = 654 ∨ nb = 218) : ∀ n i, i + n = 109 → cw_W l mm_X3_moves 0 0 (cm_2 na nb F G) none (cm_2 na nb F (cm_cp F G a b 109)) 0 0 3 [(4, .int (nI i)), (0, .ref 0), (1, .int (nI a)), (2, .ref 1), (3, .int (nI b))] [] (cm_2 na nb F (cm_cp F G a b i)) := by
  intro n
  induction n with
  | zero =>
    intro i hi
    obtain rfl : i = 109 := by omega
    exact cw_run cw_kX3_moves cw_z 3 [true] [] [] (And.intro ((show nI 109 ≤ nI 109 from Int32.le_refl _)) (cw_retv cw_kX3_moves cw_z rfl rfl))
  | succ n ih =>
    intro i hi
    have h0 : ¬ nI 109 ≤ nI i := nI_ge (by omega) (by omega)
    have ih1 := ih (i + 1) (by omega)
    rw [← nI_add i 1, ← cm_cp_s F G a b i] at ih1
    have e1 := nI_add a i
    have e2 : a + i < na := by omega
    have e3 := nI_add b i
    have e4 : b + i < nb := by omega
    clear ha hb
    rcases hna with rfl | rfl | rfl <;> rcases hnb with rfl | rfl | rfl <;> exact cw_run cw_kX3_moves cw_z 15 [false] [_, _] [] (And.intro (h0) (And.intro (e1) (And.intro (e2) (And.intro (e3) (And.intro (e4) (ih1))))))
theorem cm_moves2 (l : Launch) {na nb a b : Nat} (F G : Nat → Int32) (ha : a + 109 ≤ na) (hb : b + 109 ≤ nb) (hna : na = 109 ∨ na = 654 ∨ na = 218) (hnb : nb = 109 ∨ nb = 654 ∨ nb = 218) : cw_M l mm_X3_moves 0 0 [.ref 0, .int (nI a), .ref 1, .int (nI b)] (cm_2 na nb F G) none (cm_2 na nb F (cm_cp F G a b 109)) := by
  refine cw_enter cw_kX3_moves (by decide) (Nat.le_of_ble_eq_true rfl) ?_
  have q := cm_mv_loop l F G ha hb hna hnb 109 0 (by omega)
  rw [cm_cp_0] at q
  exact cw_run cw_kX3_moves cw_z 2 [] [] [] q
def cm_io (p q : Nat) : Nat → Nat := fun k => if k = 0 then p else q
theorem cm_moves (l : Launch) {na nb a b p q : Nat} {F G : Nat → Int32} {h : cw_H} (ha : a + 109 ≤ na) (hb : b + 109 ≤ nb) (hna : na = 109 ∨ na = 654 ∨ na = 218) (hnb : nb = 109 ∨ nb = 654 ∨ nb = 218) (hp : h[p]? = some (.inl (0, na, .inl F))) (hq : h[q]? = some (.inl (0, nb, .inl G))) (hpq : p ≠ q) : cw_M l mm_X3_moves 0 0 [.ref p, .int (nI a), .ref q, .int (nI b)] h none (h.set q (.inl (0, nb, .inl (cm_cp F G a b 109)))) := by
  refine cw_frame0 (cm_moves2 l F G ha hb hna hnb) (cm_io p q) rfl (by simp) ?_ ?_ ?_ ?_
  · intro k c hk
    match k with
    | 0 => cases hk; exact hp
    | 1 => cases hk; exact hq
    | k + 2 => cases hk
  · intro j k hj hk e
    have hj2 : j < 2 := hj
    have hk2 : k < 2 := hk
    unfold cm_io at e
    rcases (show j = 0 ∨ j = 1 by omega) with rfl | rfl <;> rcases (show k = 0 ∨ k = 1 by omega) with rfl | rfl <;> first | rfl | exact absurd e hpq | exact absurd e.symm hpq
  · intro k c hk
    have hql := cw_lt hq
    match k with
    | 0 => cases hk; rw [List.getElem?_set]; exact (if_neg (fun z => hpq z.symm)).trans hp
    | 1 => cases hk; rw [List.getElem?_set]; exact (if_pos rfl).trans (if_pos hql)
    | k + 2 => cases hk
  · intro j hj hn
    rw [List.getElem?_set]
    exact if_neg (fun z => hn 1 (show 1 < 2 by decide) z)
/-- what a change keeps: the state goes into the history -/
def cm_sh (h : Nat → Int32) (i : Nat) : Nat → Int32 := fun j => if j < i then h (j + 109) else h j
theorem cm_sh_0 (h : Nat → Int32) : cm_sh h 0 = h := by funext j; unfold cm_sh; rw [if_neg (by omega)]
theorem cm_sh_s (h : Nat → Int32) (i : Nat) : upd (cm_sh h i) i (cm_sh h i (i + 109)) = cm_sh h (i + 1) := by
  funext j
  unfold upd cm_sh
  by_cases e : j = i
  · subst e; rw [if_pos rfl, if_neg (by omega), if_pos (by omega)]
  · rw [if_neg e]
    by_cases q : j < i
    · rw [if_pos q, if_pos (by omega)]
    · rw [if_neg q, if_neg (by omega)]
def cm_ru (u : Nat) : Nat := if u = 6 then 5 else u
def cm_rh (h : Nat → Int32) (u : Nat) : Nat → Int32 := if u = 6 then cm_sh h 545 else h
def cm_rec (M : cm_S) (u : Nat) : cm_S := (M.1, M.2.1, cm_cp M.1 (cm_rh M.2.2.1 u) 0 (cm_ru u * 109) 109, nI (cm_ru u + 1), M.2.2.2.2)
theorem cm_rec_2 (l : Launch) (M0 M : cm_S) (hi : Nat → Int32) {u : Nat} (hu : u ≤ 5) {lv : cw_LV} {is : List Nat} (hl : lv_pick lv is = [(0, .ref 0)]) : cw_W l mm_X3_record 0 0 (cm_h M0) none (cm_h (M.1, M.2.1, cm_cp M.1 hi 0 (u * 109) 109, nI (u + 1), M.2.2.2.2)) 0 0 49 lv [] (cm_h (M.1, M.2.1, hi, nI u, M.2.2.2.2)) := by
  refine cw_less is hl ?_
  have am := cm_moves l (na := 109) (nb := 654) (a := 0) (b := u * 109) (p := 1) (q := 3) (F := M.1) (G := hi) (h := cm_h (M.1, M.2.1, hi, nI u, M.2.2.2.2)) (by omega) (by omega) (Or.inl rfl) (Or.inr (Or.inl rfl)) rfl rfl (by decide)
  rw [← pk_mul, show (nI u * nI 109 : Int32) = nI u * nI 109 from rfl] at am
  rw [← nI_add u 1]
  exact cw_run cw_kX3_record cw_z 16 [] [] [(_, _)] (And.intro (am) (And.intro (Nat.le_refl _) (cw_retv cw_kX3_record cw_z rfl rfl)))
theorem cm_rec_loop (l : Launch) (M0 M : cm_S) (hi : Nat → Int32) : ∀ n i, i + n = 545 → cw_W l mm_X3_record 0 0 (cm_h M0) none (cm_h (M.1, M.2.1, cm_cp M.1 (cm_sh hi 545) 0 (5 * 109) 109, nI (5 + 1), M.2.2.2.2)) 0 0 11 [(1, .int (nI i)), (0, .ref 0)] [] (cm_h (M.1, M.2.1, cm_sh hi i, nI 6, M.2.2.2.2)) := by
  intro n
  induction n with
  | zero =>
    intro i hi2
    obtain rfl : i = 545 := by omega
    have q := cm_rec_2 l M0 M (cm_sh hi 545) (u := 5) (by omega) (lv := [(1, .int (nI 545)), (0, .ref 0)]) (is := [1]) rfl
    rw [show nI 5 = nI 6 - nI 1 by decide] at q
    exact cw_run cw_kX3_record cw_z 9 [true] [] [] (And.intro ((show nI 545 ≤ nI 545 from Int32.le_refl _)) (q))
  | succ n ih =>
    intro i hi2
    have h0 : ¬ nI 545 ≤ nI i := nI_ge (by omega) (by omega)
    have ih1 := ih (i + 1) (by omega)
    rw [← nI_add i 1, ← cm_sh_s hi i] at ih1
    exact cw_run cw_kX3_record cw_z 15 [false] [_, _] [] (And.intro (h0) (And.intro (nI_add i 109) (And.intro ((show i + 109 < 654 by omega)) (And.intro (rfl) (And.intro ((show i < 654 by omega)) (ih1))))))
theorem cm_record (l : Launch) (M : cm_S) {u : Nat} (hu : M.2.2.2.1 = nI u) (h6 : u ≤ 6) : cw_M l mm_X3_record 0 0 [.ref 0] (cm_h M) none (cm_h (cm_rec M u)) := by
  obtain ⟨st, kp, hi, rc, r⟩ := M
  replace hu : rc = nI u := hu
  subst hu
  refine cw_enter cw_kX3_record (by decide) (Nat.le_of_ble_eq_true rfl) ?_
  by_cases c : u = 6
  · subst c
    have q := cm_rec_loop l (st, kp, hi, nI 6, r) (st, kp, hi, nI 6, r) hi 545 0 (by omega)
    rw [cm_sh_0] at q
    exact cw_run cw_kX3_record cw_z 6 [false] [] [] (And.intro ((show ¬ ¬ nI 6 = nI 6 from fun q => q rfl)) (q))
  · have e1 : cm_rec (st, kp, hi, nI u, r) u = (st, kp, cm_cp st hi 0 (u * 109) 109, nI (u + 1), r) := by
      unfold cm_rec cm_rh cm_ru
      rw [if_neg c, if_neg c]
    rw [e1]
    have n6 : ¬ nI u = nI 6 := fun q => c ((nI_eq (by omega) (by omega)).mp q)
    exact cw_run cw_kX3_record cw_z 4 [true] [] [] (And.intro (n6) (cm_rec_2 l (st, kp, hi, nI u, r) (st, kp, hi, nI u, r) hi (u := u) (by omega) (is := [0]) rfl))
/-- the greatest thing of a clause; of the told ones -/
def cm_gi (c : Int32) : Nat → Nat → Int32 → Int32
  | 0, _, a => a
  | n + 1, x, a => cm_gi c n (x + 1) (if cm_so c x = -nI 6 then a else nI x)
theorem cm_gi_loop (l : Launch) (h : cw_H) (c : Int32) : ∀ n x a, x + n = 10 → cw_W l mm_X3_greatestIn 0 0 h (some (.int (cm_gi c n x a))) h 0 0 4 [(2, .int (nI x)), (1, .int a), (0, .int c)] [] h := by
  intro n
  induction n with
  | zero =>
    intro x a hx
    obtain rfl : x = 10 := by omega
    exact cw_run cw_kX3_greatestIn cw_z 4 [true] [] [] (And.intro ((show nI 9 < nI 10 from nI_lt (by omega) (by omega))) (cw_reti cw_kX3_greatestIn cw_z rfl rfl))
  | succ n ih =>
    intro x a hx
    have h0 : ¬ nI 9 < nI x := nI_nlt (by omega) (by omega)
    have as := cm_signOf l h c (k := x) (by omega)
    unfold cm_gi
    by_cases e : cm_so c x = -nI 6
    · rw [if_pos e]
      have ih1 := ih (x + 1) a (by omega)
      rw [← nI_add x 1] at ih1
      exact cw_run cw_kX3_greatestIn cw_z 13 [false, false] [] [(_, _)] (And.intro (h0) (And.intro (as) (And.intro (Nat.le_refl _) (And.intro ((fun q => q e)) (ih1)))))
    · rw [if_neg e]
      have ih1 := ih (x + 1) (nI x) (by omega)
      rw [← nI_add x 1] at ih1
      exact cw_run cw_kX3_greatestIn cw_z 12 [false, true] [] [(_, _)] (And.intro (h0) (And.intro (as) (And.intro (Nat.le_refl _) (And.intro (e) (ih1)))))
theorem cm_greatestIn (l : Launch) (h : cw_H) (c : Int32) : cw_M l mm_X3_greatestIn 0 0 [.int c] h (some (.int (cm_gi c 9 1 (nI 0)))) h := by
  refine cw_enter cw_kX3_greatestIn (by decide) (Nat.le_of_ble_eq_true rfl) ?_
  exact cw_run cw_kX3_greatestIn cw_z 4 [] [] [] (cm_gi_loop l h c 9 1 _ (by omega))
def cm_gt (f : Nat → Int32) : Nat → Nat → Int32 → Int32
  | 0, _, a => a
  | n + 1, k, a => cm_gt f n (k + 1) (if a < cm_gi (f (49 + k)) 9 1 (nI 0) then cm_gi (f (49 + k)) 9 1 (nI 0) else a)
theorem cm_gt_loop (l : Launch) (M : cm_S) {t : Nat} (ht : cm_st M 3 = nI t) (h20 : t ≤ 20) : ∀ n k a, k + n = t → cw_W l mm_X3_greatestTold 0 0 (cm_h M) (some (.int (cm_gt (cm_st M) n k a))) (cm_h M) 0 0 4 [(2, .int (nI k)), (1, .int a), (0, .ref 0)] [] (cm_h M) := by
  intro n
  induction n with
  | zero =>
    intro k a hk
    exact cw_run cw_kX3_greatestTold cw_z 7 [true] [_] [] (And.intro (rfl) (And.intro (Nat.le_of_ble_eq_true rfl) (And.intro ((show cm_st M 3 ≤ nI k by rw [ht]; exact nI_le (by omega) (by omega))) (cw_reti cw_kX3_greatestTold cw_z rfl rfl))))
  | succ n ih =>
    intro k a hk
    have h0 : ¬ cm_st M 3 ≤ nI k := by rw [ht]; exact nI_ge (by omega) (by omega)
    have h49 : 49 + k < 109 := by omega
    have as := cm_greatestIn l (cm_h M) (cm_st M (49 + k))
    unfold cm_gt
    generalize cm_gi (cm_st M (49 + k)) 9 1 (nI 0) = G at as ⊢
    by_cases e : a < G
    · rw [if_pos e]
      have ih1 := ih (k + 1) G (by omega)
      rw [← nI_add k 1] at ih1
      exact cw_run cw_kX3_greatestTold cw_z 26 [false, false] [_, _, _] [(_, _), (_, _)] (And.intro (rfl) (And.intro (Nat.le_of_ble_eq_true rfl) (And.intro (h0) (And.intro (nI_add 49 k) (And.intro (h49) (And.intro (as) (And.intro (Nat.le_refl _) (And.intro ((show ¬ G ≤ a from Int32.not_le.mpr e)) (And.intro (nI_add 49 k) (And.intro (h49) (And.intro (as) (And.intro (Nat.le_refl _) (ih1)))))))))))))
    · rw [if_neg e]
      have ih1 := ih (k + 1) a (by omega)
      rw [← nI_add k 1] at ih1
      exact cw_run cw_kX3_greatestTold cw_z 19 [false, true] [_, _] [(_, _)] (And.intro (rfl) (And.intro (Nat.le_of_ble_eq_true rfl) (And.intro (h0) (And.intro (nI_add 49 k) (And.intro (h49) (And.intro (as) (And.intro (Nat.le_refl _) (And.intro ((show G ≤ a from Int32.not_lt.mp e)) (ih1)))))))))
theorem cm_greatestTold (l : Launch) (M : cm_S) {t : Nat} (ht : cm_st M 3 = nI t) (h20 : t ≤ 20) : cw_M l mm_X3_greatestTold 0 0 [.ref 0] (cm_h M) (some (.int (cm_gt (cm_st M) t 0 (nI 0)))) (cm_h M) := by
  refine cw_enter cw_kX3_greatestTold (by decide) (Nat.le_of_ble_eq_true rfl) ?_
  exact cw_run cw_kX3_greatestTold cw_z 4 [] [] [] (cm_gt_loop l M ht h20 t 0 _ (by omega))
/-- settings, told clauses, things -/
def cb_iv (s v : Int32) : Bool := if s = 0 then cb_wi v (nI 1) (nI 9) else if s = nI 1 then cb_wi v (nI 1) (nI 20) else if s = nI 2 then cb_wi v (nI 0) (nI 1) else false
theorem cm_isValue (l : Launch) (h : cw_H) (s v : Int32) : cw_M l mm_X3_isValue 0 0 [.int s, .int v] h (some (.int (cb_n (cb_iv s v)))) h := by
  refine cw_enter cw_kX3_isValue (by decide) (Nat.le_of_ble_eq_true rfl) ?_
  unfold cb_iv
  by_cases a : s = 0
  · rw [if_pos a]
    exact cw_run cw_kX3_isValue cw_z 7 [false] [] [(_, _)] (And.intro ((fun q => q a)) (And.intro (cm_within l _ _ _ _) (And.intro (Nat.le_refl _) (cw_retz cw_kX3_isValue cw_z rfl rfl (cb_n01 _)))))
  · rw [if_neg a]
    by_cases b : s = nI 1
    · rw [if_pos b]
      exact cw_run cw_kX3_isValue cw_z 10 [true, false] [] [(_, _)] (And.intro (a) (And.intro ((fun q => q b)) (And.intro (cm_within l _ _ _ _) (And.intro (Nat.le_refl _) (cw_retz cw_kX3_isValue cw_z rfl rfl (cb_n01 _))))))
    · rw [if_neg b]
      by_cases c : s = nI 2
      · rw [if_pos c]
        cases d : cb_wi v (nI 0) (nI 1) with
        | true => exact cw_run cw_kX3_isValue cw_z 15 [true, true, false, false] [] [(_, _)] (And.intro (a) (And.intro (b) (And.intro ((fun q => q c)) (And.intro (cm_within l _ _ _ _) (And.intro (Nat.le_refl _) (And.intro (cb_nt.mpr d) (cw_retz cw_kX3_isValue cw_z rfl rfl (Or.inr rfl))))))))
        | false => exact cw_run cw_kX3_isValue cw_z 14 [true, true, false, true] [] [(_, _)] (And.intro (a) (And.intro (b) (And.intro ((fun q => q c)) (And.intro (cm_within l _ _ _ _) (And.intro (Nat.le_refl _) (And.intro (cb_n0.mpr d) (cw_retz cw_kX3_isValue cw_z rfl rfl (Or.inl rfl))))))))
      · rw [if_neg c]
        exact cw_run cw_kX3_isValue cw_z 9 [true, true, true] [] [] (And.intro (a) (And.intro (b) (And.intro (c) (cw_retz cw_kX3_isValue cw_z rfl rfl (Or.inl rfl)))))
theorem cm_isTold (l : Launch) (M : cm_S) (x : Int32) : cw_M l mm_X3_isTold 0 0 [.ref 0, .int x] (cm_h M) (some (.int (cb_n (cb_wi x (nI 0) (cm_st M 3 - nI 1))))) (cm_h M) := by
  refine cw_enter cw_kX3_isTold (by decide) (Nat.le_of_ble_eq_true rfl) ?_
  exact cw_run cw_kX3_isTold cw_z 9 [] [_] [(_, _)] (And.intro (rfl) (And.intro (Nat.le_of_ble_eq_true rfl) (And.intro (cm_within l _ _ _ _) (And.intro (Nat.le_refl _) (cw_retz cw_kX3_isTold cw_z rfl rfl (cb_n01 _))))))
theorem cm_isThing (l : Launch) (M : cm_S) (x : Int32) : cw_M l mm_X3_isThing 0 0 [.ref 0, .int x] (cm_h M) (some (.int (cb_n (cb_wi x (nI 1) (cm_st M 0))))) (cm_h M) := by
  refine cw_enter cw_kX3_isThing (by decide) (Nat.le_of_ble_eq_true rfl) ?_
  exact cw_run cw_kX3_isThing cw_z 7 [] [_] [(_, _)] (And.intro (rfl) (And.intro (Nat.le_of_ble_eq_true rfl) (And.intro (cm_within l _ _ _ _) (And.intro (Nat.le_refl _) (cw_retz cw_kX3_isThing cw_z rfl rfl (cb_n01 _))))))
/-- a told clause taken away -/
def cm_tk (f : Nat → Int32) (t k : Nat) : Nat → Int32 := cm_an (upd (cm_sf f k (t - 1)) 3 (nI (t - 1))) (t - 1)
theorem cm_tk_loop (l : Launch) (M0 M : cm_S) (f : Nat → Int32) (x : Int32) {t k : Nat} (ht : f 3 = nI t) (h20 : t ≤ 20) (h1 : 1 ≤ t) : ∀ n i, i + n = t - 1 → k ≤ i → cw_W l mm_X3_takeAway 0 0 (cm_h M0) none (cm_h (cm_wst M (cm_tk f t k))) 0 0 2 [(2, .int (nI i)), (0, .ref 0), (1, .int x)] [] (cm_h (cm_wst M (cm_sf f k i))) := by
  have s3 : ∀ i, cm_sf f k i 3 = nI t := fun i => by unfold cm_sf; rw [if_neg (by omega)]; exact ht
  have e0 : ∀ i, cm_sf f k i 3 - nI 1 = nI (t - 1) := fun i => by rw [s3, pk_sub (by omega)]
  intro n
  induction n with
  | zero =>
    intro i hi hk
    obtain rfl : i = t - 1 := by omega
    have ab := cm_beginsAnew l (cm_wst M (upd (cm_sf f k (t - 1)) 3 (nI (t - 1)))) (t := t - 1) (show upd (cm_sf f k (t - 1)) 3 (nI (t - 1)) 3 = _ from pk_us) (by omega)
    have e3 : cm_wst M (upd (cm_sf f k (t - 1)) 3 (nI (t - 1))) = cm_wst M (upd (cm_sf f k (t - 1)) 3 (cm_sf f k (t - 1) 3 - nI 1)) := by rw [e0]
    rw [e3] at ab
    have e4 : cm_wst (cm_wst M (upd (cm_sf f k (t - 1)) 3 (cm_sf f k (t - 1) 3 - nI 1))) (cm_an (cm_st (cm_wst M (upd (cm_sf f k (t - 1)) 3 (cm_sf f k (t - 1) 3 - nI 1)))) (t - 1)) = cm_wst M (cm_tk f t k) := by
      show cm_wst M (cm_an (upd (cm_sf f k (t - 1)) 3 (cm_sf f k (t - 1) 3 - nI 1)) (t - 1)) = _
      rw [e0]; rfl
    rw [e4] at ab
    exact cw_run cw_kX3_takeAway cw_z 18 [true] [_, _, _] [(_, _)] (And.intro (rfl) (And.intro (Nat.le_of_ble_eq_true rfl) (And.intro ((show cm_sf f k (t - 1) 3 - nI 1 ≤ nI (t - 1) by rw [e0]; exact Int32.le_refl _)) (And.intro (rfl) (And.intro (Nat.le_of_ble_eq_true rfl) (And.intro (rfl) (And.intro (Nat.le_of_ble_eq_true rfl) (And.intro (ab) (And.intro (Nat.le_refl _) (cw_retv cw_kX3_takeAway cw_z rfl rfl))))))))))
  | succ n ih =>
    intro i hi hk
    have ih1 := ih (i + 1) (by omega) (by omega)
    rw [← nI_add i 1, ← cm_sf_s f hk] at ih1
    have lt : ¬ cm_sf f k i 3 - nI 1 ≤ nI i := by rw [e0]; exact nI_ge (by omega) (by omega)
    exact cw_run cw_kX3_takeAway cw_z 24 [false] [_, _, _] [] (And.intro (rfl) (And.intro (Nat.le_of_ble_eq_true rfl) (And.intro (lt) (And.intro ((show nI 49 + nI i + nI 1 = nI (49 + i + 1) by rw [nI_add, nI_add])) (And.intro ((show 49 + i + 1 < 109 by omega)) (And.intro (nI_add 49 i) (And.intro ((show 49 + i < 109 by omega)) (ih1))))))))
theorem cm_takeAway (l : Launch) (M : cm_S) {t k : Nat} (ht : cm_st M 3 = nI t) (h20 : t ≤ 20) (hk : k < t) : cw_M l mm_X3_takeAway 0 0 [.ref 0, .int (nI k)] (cm_h M) none (cm_h (cm_wst M (cm_tk (cm_st M) t k))) := by
  refine cw_enter cw_kX3_takeAway (by decide) (Nat.le_of_ble_eq_true rfl) ?_
  have q := cm_tk_loop l M M (cm_st M) (nI k) ht h20 (by omega) (t - 1 - k) k (by omega) (Nat.le_refl _)
  rw [cm_sf_k] at q
  exact cw_run cw_kX3_takeAway cw_z 2 [] [] [] q
/-- the place of a thing in the trail -/
def cm_pf (f : Nat → Int32) (x : Int32) : Nat → Nat → Int32 → Int32
  | 0, _, a => a
  | n + 1, k, a => cm_pf f x n (k + 1) (if f (10 + k) = x then nI k else a)
theorem cm_pf_loop (l : Launch) (M : cm_S) (x : Int32) {g : Nat} (hg : cm_st M 7 = nI g) (h9 : g ≤ 9) : ∀ n k a, k + n = g → cw_W l mm_X3_placeOf 0 0 (cm_h M) (some (.int (cm_pf (cm_st M) x n k a))) (cm_h M) 0 0 5 [(3, .int (nI k)), (2, .int a), (0, .ref 0), (1, .int x)] [] (cm_h M) := by
  intro n
  induction n with
  | zero =>
    intro k a hk
    exact cw_run cw_kX3_placeOf cw_z 7 [true] [_] [] (And.intro (rfl) (And.intro (Nat.le_of_ble_eq_true rfl) (And.intro ((show cm_st M 7 ≤ nI k by rw [hg]; exact nI_le (by omega) (by omega))) (cw_reti cw_kX3_placeOf cw_z rfl rfl))))
  | succ n ih =>
    intro k a hk
    have h0 : ¬ cm_st M 7 ≤ nI k := by rw [hg]; exact nI_ge (by omega) (by omega)
    unfold cm_pf
    by_cases e : cm_st M (10 + k) = x
    · rw [if_pos e]
      have ih1 := ih (k + 1) (nI k) (by omega)
      rw [← nI_add k 1] at ih1
      exact cw_run cw_kX3_placeOf cw_z 19 [false, false] [_, _] [] (And.intro (rfl) (And.intro (Nat.le_of_ble_eq_true rfl) (And.intro (h0) (And.intro (nI_add 10 k) (And.intro ((show 10 + k < 109 by omega)) (And.intro ((fun q => q e)) (ih1)))))))
    · rw [if_neg e]
      have ih1 := ih (k + 1) a (by omega)
      rw [← nI_add k 1] at ih1
      exact cw_run cw_kX3_placeOf cw_z 18 [false, true] [_, _] [] (And.intro (rfl) (And.intro (Nat.le_of_ble_eq_true rfl) (And.intro (h0) (And.intro (nI_add 10 k) (And.intro ((show 10 + k < 109 by omega)) (And.intro (e) (ih1)))))))
theorem cm_placeOf (l : Launch) (M : cm_S) (x : Int32) {g : Nat} (hg : cm_st M 7 = nI g) (h9 : g ≤ 9) : cw_M l mm_X3_placeOf 0 0 [.ref 0, .int x] (cm_h M) (some (.int (cm_pf (cm_st M) x g 0 (-nI 6)))) (cm_h M) := by
  refine cw_enter cw_kX3_placeOf (by decide) (Nat.le_of_ble_eq_true rfl) ?_
  exact cw_run cw_kX3_placeOf cw_z 4 [] [] [] (cm_pf_loop l M x hg h9 g 0 _ (by omega))
/-- how many signs a clause has; the one at a place -/
def cm_si (c : Int32) : Nat → Nat → Nat → Nat
  | 0, _, a => a
  | n + 1, s, a => cm_si c n (s + 1) (a + (if bt c s then 1 else 0))
theorem cb_nn (b : Bool) : cb_n b = nI (if b then 1 else 0) := by cases b <;> rfl
theorem cm_si_loop (l : Launch) (h : cw_H) (c : Int32) : ∀ n s a, s + n = 20 → cw_W l mm_X3_signsIn 0 0 h (some (.int (nI (cm_si c n s a)))) h 0 0 4 [(2, .int (nI s)), (1, .int (nI a)), (0, .int c)] [] h := by
  intro n
  induction n with
  | zero =>
    intro s a hs
    obtain rfl : s = 20 := by omega
    exact cw_run cw_kX3_signsIn cw_z 4 [true] [] [] (And.intro ((show nI 20 ≤ nI 20 from Int32.le_refl _)) (cw_reti cw_kX3_signsIn cw_z rfl rfl))
  | succ n ih =>
    intro s a hs
    have h0 : ¬ nI 20 ≤ nI s := nI_ge (by omega) (by omega)
    unfold cm_si
    have ih1 := ih (s + 1) (a + (if bt c s then 1 else 0)) (by omega)
    rw [← nI_add s 1, ← nI_add a, ← cb_nn, ← cb_shb c (by omega)] at ih1
    exact cw_run cw_kX3_signsIn cw_z 13 [false] [] [] (And.intro (h0) (ih1))
theorem cm_signsIn (l : Launch) (h : cw_H) (c : Int32) : cw_M l mm_X3_signsIn 0 0 [.int c] h (some (.int (nI (cm_si c 19 1 0)))) h := by
  refine cw_enter cw_kX3_signsIn (by decide) (Nat.le_of_ble_eq_true rfl) ?_
  exact cw_run cw_kX3_signsIn cw_z 4 [] [] [] (cm_si_loop l h c 19 1 0 (by omega))
def cm_sa (c : Int32) : Nat → Nat → Int32 → Int32 → Int32
  | 0, _, _, a => a
  | n + 1, x, lf, a => cm_sa c n (x + 1) (lf - (if cm_so c x = -nI 6 then nI 0 else nI 1)) (if ¬ cm_so c x = -nI 6 ∧ lf = 0 then cm_so c x else a)
theorem cm_sa_loop (l : Launch) (h : cw_H) (c p : Int32) : ∀ n x lf a, x + n = 10 → cw_W l mm_X3_signAt 0 0 h (some (.int (cm_sa c n x lf a))) h 0 0 8 [(4, .int (nI x)), (3, .int a), (2, .int lf), (0, .int c), (1, .int p)] [] h := by
  intro n
  induction n with
  | zero =>
    intro x lf a hx
    obtain rfl : x = 10 := by omega
    exact cw_run cw_kX3_signAt cw_z 4 [true] [] [] (And.intro ((show nI 9 < nI 10 from nI_lt (by omega) (by omega))) (cw_reti cw_kX3_signAt cw_z rfl rfl))
  | succ n ih =>
    intro x lf a hx
    have h0 : ¬ nI 9 < nI x := nI_nlt (by omega) (by omega)
    have as := cm_signOf l h c (k := x) (by omega)
    unfold cm_sa
    by_cases e : cm_so c x = -nI 6
    · rw [if_pos e, if_neg (fun q => q.1 e)]
      have ih1 := ih (x + 1) (lf - nI 0) a (by omega)
      rw [← nI_add x 1] at ih1
      exact cw_run cw_kX3_signAt cw_z 22 [false, true, false] [] [(_, _)] (And.intro (h0) (And.intro (as) (And.intro (Nat.le_refl _) (And.intro (e) (And.intro ((fun q => q e)) (cw_less [0, 2, 1, 4, 5] rfl ih1))))))
    · rw [if_neg e]
      by_cases d : lf = 0
      · rw [if_pos ⟨e, d⟩]
        have ih1 := ih (x + 1) (lf - nI 1) (cm_so c x) (by omega)
        rw [← nI_add x 1] at ih1
        exact cw_run cw_kX3_signAt cw_z 24 [false, false, false, true] [] [(_, _)] (And.intro (h0) (And.intro (as) (And.intro (Nat.le_refl _) (And.intro (e) (And.intro ((fun q => q d)) (And.intro (e) (cw_less [0, 2, 1, 4, 5] rfl ih1)))))))
      · rw [if_neg (fun q => d q.2)]
        have ih1 := ih (x + 1) (lf - nI 1) a (by omega)
        rw [← nI_add x 1] at ih1
        exact cw_run cw_kX3_signAt cw_z 23 [false, false, true, true] [] [(_, _)] (And.intro (h0) (And.intro (as) (And.intro (Nat.le_refl _) (And.intro (e) (And.intro (d) (And.intro (e) (cw_less [0, 2, 1, 4, 5] rfl ih1)))))))
theorem cm_signAt (l : Launch) (h : cw_H) (c p : Int32) : cw_M l mm_X3_signAt 0 0 [.int c, .int p] h (some (.int (cm_sa c 9 1 p (-nI 6)))) h := by
  refine cw_enter cw_kX3_signAt (by decide) (Nat.le_of_ble_eq_true rfl) ?_
  exact cw_run cw_kX3_signAt cw_z 6 [] [] [] (cm_sa_loop l h c p 9 1 p _ (by omega))
/-- does an answer make a clause true? -/
def cm_fi (c : Int32) (A : Nat) : Nat → Nat → Bool → Bool
  | 0, _, a => a
  | n + 1, s, a => cm_fi c A n (s + 1) (a || (bt c s && (decide (¬ s = 10) && decide (cb_n (bt (nI A) (s % 10 - 1)) = cb_wa s))))
theorem cm_fi_loop (l : Launch) (h : cw_H) (c : Int32) (A : Nat) : ∀ n s a, s + n = 20 → 1 ≤ s → cw_W l mm_X3_fits 0 0 h (some (.int (cb_n (cm_fi c A n s a)))) h 0 0 4 [(3, .int (nI s)), (2, .int (cb_n a)), (0, .int c), (1, .int (nI A))] [] h := by
  intro n
  induction n with
  | zero =>
    intro s a hs _
    obtain rfl : s = 20 := by omega
    exact cw_run cw_kX3_fits cw_z 4 [true] [] [] (And.intro ((show nI 20 ≤ nI 20 from Int32.le_refl _)) (cw_retz cw_kX3_fits cw_z rfl rfl (cb_n01 _)))
  | succ n ih =>
    intro s a hs h1
    have h0 : ¬ nI 20 ≤ nI s := nI_ge (by omega) (by omega)
    have d0 : ¬ nI 10 = 0 := by decide
    have ih1 := fun b => ih (s + 1) b (by omega) (by omega)
    rw [← nI_add s 1] at ih1
    unfold cm_fi
    cases a with
    | true =>
      rw [Bool.true_or]
      exact cw_run cw_kX3_fits cw_z 10 [false, true] [] [] (And.intro (h0) (And.intro (cb_nt.mpr rfl) (ih1 true)))
    | false =>
      rw [Bool.false_or]
      cases b : bt c s with
      | false =>
        rw [Bool.false_and]
        exact cw_run cw_kX3_fits cw_z 13 [false, false, true] [] [(_, _)] (And.intro (h0) (And.intro ((fun q => q (cb_n0.mpr rfl))) (And.intro (cm_has l _ _ (by omega)) (And.intro (Nat.le_refl _) (And.intro (cb_n0.mpr b) (ih1 false))))))
      | true =>
        rw [Bool.true_and]
        by_cases e10 : s = 10
        · subst e10
          rw [decide_eq_false (by simp), Bool.false_and]
          exact cw_run cw_kX3_fits cw_z 16 [false, false, false, true] [] [(_, _)] (And.intro (h0) (And.intro ((fun q => q (cb_n0.mpr rfl))) (And.intro (cm_has l _ _ (by omega)) (And.intro (Nat.le_refl _) (And.intro (cb_nt.mpr b) (And.intro (rfl) (ih1 false)))))))
        · rw [decide_eq_true e10, Bool.true_and]
          have n10 : ¬ nI s = nI 10 := fun q => e10 ((nI_eq (by omega) (by omega)).mp q)
          have er : (nI A >>> ((nI s - nI s / nI 10 * nI 10 - nI 1) &&& 31)) &&& nI 1 = cb_n (bt (nI A) (s % 10 - 1)) := by
            rw [cb_r10 (by omega), pk_sub (by omega), cb_shb _ (by omega)]
          by_cases e : cb_n (bt (nI A) (s % 10 - 1)) = cb_wa s
          · rw [decide_eq_true e]
            exact cw_run cw_kX3_fits cw_z 29 [false, false, false, false, false] [] [(_, _), (_, _)] (And.intro (h0) (And.intro ((fun q => q (cb_n0.mpr rfl))) (And.intro (cm_has l _ _ (by omega)) (And.intro (Nat.le_refl _) (And.intro (cb_nt.mpr b) (And.intro (n10) (And.intro (d0) (And.intro (cm_wanted l _ (by omega)) (And.intro (Nat.le_refl _) (And.intro ((fun q => q (er.trans e))) (ih1 true)))))))))))
          · rw [decide_eq_false e]
            exact cw_run cw_kX3_fits cw_z 28 [false, false, false, false, true] [] [(_, _), (_, _)] (And.intro (h0) (And.intro ((fun q => q (cb_n0.mpr rfl))) (And.intro (cm_has l _ _ (by omega)) (And.intro (Nat.le_refl _) (And.intro (cb_nt.mpr b) (And.intro (n10) (And.intro (d0) (And.intro (cm_wanted l _ (by omega)) (And.intro (Nat.le_refl _) (And.intro ((fun q => e (er.symm.trans q))) (ih1 false)))))))))))
theorem cm_fits (l : Launch) (h : cw_H) (c : Int32) (A : Nat) : cw_M l mm_X3_fits 0 0 [.int c, .int (nI A)] h (some (.int (cb_n (cm_fi c A 19 1 false)))) h := by
  refine cw_enter cw_kX3_fits (by decide) (Nat.le_of_ble_eq_true rfl) ?_
  exact cw_run cw_kX3_fits cw_z 4 [] [] [] (cm_fi_loop l h c A 19 1 false (by omega) (by omega))
/-- is it an answer, but for a clause? how many are there? -/
def cm_ia (f : Nat → Int32) (A : Nat) (but : Int32) : Nat → Nat → Bool
  | 0, _ => true
  | n + 1, k => (decide (nI k = but) || cm_fi (f (49 + k)) A 19 1 false) && cm_ia f A but n (k + 1)
theorem cm_ia_loop (l : Launch) (M : cm_S) (A : Nat) (but : Int32) {t : Nat} (ht : cm_st M 3 = nI t) (h20 : t ≤ 20) : ∀ n k, k + n = t → cw_W l mm_X3_isAnswer 0 0 (cm_h M) (some (.int (cb_n (cm_ia (cm_st M) A but n k)))) (cm_h M) 0 0 5 [(4, .int (nI k)), (3, .int (nI 1)), (0, .ref 0), (1, .int (nI A)), (2, .int but)] [] (cm_h M) := by
  intro n
  induction n with
  | zero =>
    intro k hk
    exact cw_run cw_kX3_isAnswer cw_z 7 [true] [_] [] (And.intro (rfl) (And.intro (Nat.le_of_ble_eq_true rfl) (And.intro ((show cm_st M 3 ≤ nI k by rw [ht]; exact nI_le (by omega) (by omega))) (cw_retz cw_kX3_isAnswer cw_z rfl rfl (Or.inr rfl)))))
  | succ n ih =>
    intro k hk
    have h0 : ¬ cm_st M 3 ≤ nI k := by rw [ht]; exact nI_ge (by omega) (by omega)
    have h49 : 49 + k < 109 := by omega
    have n1 : ¬ nI 1 = 0 := by decide
    have af := cm_fits l (cm_h M) (cm_st M (49 + k)) A
    have ih1 := ih (k + 1) (by omega)
    rw [← nI_add k 1] at ih1
    unfold cm_ia
    generalize cm_fi (cm_st M (49 + k)) A 19 1 false = b at af ⊢
    by_cases e : nI k = but
    · rw [decide_eq_true e, Bool.true_or, Bool.true_and]
      exact cw_run cw_kX3_isAnswer cw_z 16 [false, false, true] [_] [] (And.intro (rfl) (And.intro (Nat.le_of_ble_eq_true rfl) (And.intro (h0) (And.intro (n1) (And.intro (e) (ih1))))))
    · rw [decide_eq_false e, Bool.false_or]
      cases b with
      | true =>
        rw [Bool.true_and]
        exact cw_run cw_kX3_isAnswer cw_z 25 [false, false, false, false] [_, _] [(_, _)] (And.intro (rfl) (And.intro (Nat.le_of_ble_eq_true rfl) (And.intro (h0) (And.intro (n1) (And.intro (e) (And.intro (nI_add 49 k) (And.intro (h49) (And.intro (af) (And.intro (Nat.le_refl _) (And.intro (cb_nt.mpr rfl) (ih1)))))))))))
      | false =>
        rw [Bool.false_and]
        by_cases m : cm_st M 3 ≤ nI (k + 1)
        · rw [← nI_add k 1] at m
          exact cw_run cw_kX3_isAnswer cw_z 31 [false, false, false, true, true] [_, _, _] [(_, _)] (And.intro (rfl) (And.intro (Nat.le_of_ble_eq_true rfl) (And.intro (h0) (And.intro (n1) (And.intro (e) (And.intro (nI_add 49 k) (And.intro (h49) (And.intro (af) (And.intro (Nat.le_refl _) (And.intro (cb_n0.mpr rfl) (And.intro (rfl) (And.intro (Nat.le_of_ble_eq_true rfl) (And.intro (m) (cw_retz cw_kX3_isAnswer cw_z rfl rfl (Or.inl rfl)))))))))))))))
        · rw [← nI_add k 1] at m
          exact cw_run cw_kX3_isAnswer cw_z 33 [false, false, false, true, false, true] [_, _, _] [(_, _)] (And.intro (rfl) (And.intro (Nat.le_of_ble_eq_true rfl) (And.intro (h0) (And.intro (n1) (And.intro (e) (And.intro (nI_add 49 k) (And.intro (h49) (And.intro (af) (And.intro (Nat.le_refl _) (And.intro (cb_n0.mpr rfl) (And.intro (rfl) (And.intro (Nat.le_of_ble_eq_true rfl) (And.intro (m) (And.intro (rfl) (cw_retz cw_kX3_isAnswer cw_z rfl rfl (Or.inl rfl))))))))))))))))
def cm_isa (f : Nat → Int32) (t A : Nat) (but : Int32) : Bool := cm_ia f A but t 0
theorem cm_isAnswer (l : Launch) (M : cm_S) (A : Nat) (but : Int32) {t : Nat} (ht : cm_st M 3 = nI t) (h20 : t ≤ 20) : cw_M l mm_X3_isAnswer 0 0 [.ref 0, .int (nI A), .int but] (cm_h M) (some (.int (cb_n (cm_isa (cm_st M) t A but)))) (cm_h M) := by
  refine cw_enter cw_kX3_isAnswer (by decide) (Nat.le_of_ble_eq_true rfl) ?_
  exact cw_run cw_kX3_isAnswer cw_z 4 [] [] [] (cm_ia_loop l M A but ht h20 t 0 (by omega))
theorem cb_pow : ∀ th, th ≤ 9 → nI 1 <<< (nI th &&& 31) = nI (2 ^ th) := by decide +kernel
theorem cb_pow9 {th : Nat} (h : th ≤ 9) : 2 ^ th ≤ 512 := by
  calc 2 ^ th ≤ 2 ^ 9 := Nat.pow_le_pow_right (by omega) h
    _ = 512 := rfl
def cm_ab (f : Nat → Int32) (t : Nat) (but : Int32) : Nat → Nat → Nat → Nat
  | 0, _, m => m
  | n + 1, A, m => cm_ab f t but n (A + 1) (m + (if cm_isa f t A but then 1 else 0))
theorem cm_ab_loop (l : Launch) (M : cm_S) (but : Int32) {t th : Nat} (ht : cm_st M 3 = nI t) (h20 : t ≤ 20) (hth : cm_st M 0 = nI th) (h9 : th ≤ 9) : ∀ n A m, A + n = 2 ^ th → cw_W l mm_X3_answersBut 0 0 (cm_h M) (some (.int (nI (cm_ab (cm_st M) t but n A m)))) (cm_h M) 0 0 4 [(3, .int (nI A)), (2, .int (nI m)), (0, .ref 0), (1, .int but)] [] (cm_h M) := by
  have h512 := cb_pow9 h9
  have ep : nI 1 <<< (cm_st M 0 &&& 31) = nI (2 ^ th) := by rw [hth]; exact cb_pow th h9
  intro n
  induction n with
  | zero =>
    intro A m hA
    exact cw_run cw_kX3_answersBut cw_z 9 [true] [_] [] (And.intro (rfl) (And.intro (Nat.le_of_ble_eq_true rfl) (And.intro ((show nI 1 <<< (cm_st M 0 &&& 31) ≤ nI A by rw [ep]; exact nI_le (by omega) (by omega))) (cw_reti cw_kX3_answersBut cw_z rfl rfl))))
  | succ n ih =>
    intro A m hA
    have h0 : ¬ nI 1 <<< (cm_st M 0 &&& 31) ≤ nI A := by rw [ep]; exact nI_ge (by omega) (by omega)
    have aa := cm_isAnswer l M A but ht h20
    unfold cm_ab
    cases b : cm_isa (cm_st M) t A but with
    | true =>
      rw [b] at aa
      rw [if_pos rfl]
      have ih1 := ih (A + 1) (m + 1) (by omega)
      rw [← nI_add A 1, ← nI_add m 1] at ih1
      exact cw_run cw_kX3_answersBut cw_z 20 [false, false] [_] [(_, _)] (And.intro (rfl) (And.intro (Nat.le_of_ble_eq_true rfl) (And.intro (h0) (And.intro (aa) (And.intro (Nat.le_refl _) (And.intro (cb_nt.mpr rfl) (ih1)))))))
    | false =>
      rw [b] at aa
      rw [if_neg (by decide)]
      have ih1 := ih (A + 1) (m + 0) (by omega)
      rw [← nI_add A 1, ← nI_add m 0] at ih1
      exact cw_run cw_kX3_answersBut cw_z 19 [false, true] [_] [(_, _)] (And.intro (rfl) (And.intro (Nat.le_of_ble_eq_true rfl) (And.intro (h0) (And.intro (aa) (And.intro (Nat.le_refl _) (And.intro (cb_n0.mpr rfl) (ih1)))))))
theorem cm_answersBut (l : Launch) (M : cm_S) (but : Int32) {t th : Nat} (ht : cm_st M 3 = nI t) (h20 : t ≤ 20) (hth : cm_st M 0 = nI th) (h9 : th ≤ 9) : cw_M l mm_X3_answersBut 0 0 [.ref 0, .int but] (cm_h M) (some (.int (nI (cm_ab (cm_st M) t but (2 ^ th) 0 0)))) (cm_h M) := by
  refine cw_enter cw_kX3_answersBut (by decide) (Nat.le_of_ble_eq_true rfl) ?_
  exact cw_run cw_kX3_answersBut cw_z 4 [] [] [] (cm_ab_loop l M but ht h20 hth h9 (2 ^ th) 0 0 (by omega))
