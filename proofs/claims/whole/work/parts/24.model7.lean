/-! the reference: its public methods -/
abbrev cm_wrc (M : cm_S) (u : Int32) : cm_S := (M.1, M.2.1, M.2.2.1, u, M.2.2.2.2)
abbrev cm_wpl (M : cm_S) (n : Int32) : cm_S := (M.1, M.2.1, M.2.2.1, M.2.2.2.1, M.2.2.2.2.1, M.2.2.2.2.2.1, M.2.2.2.2.2.2.1, n, M.2.2.2.2.2.2.2.2)
abbrev cm_wpp (M : cm_S) (f : Nat → Int32) (n : Int32) : cm_S := (M.1, M.2.1, M.2.2.1, M.2.2.2.1, M.2.2.2.2.1, M.2.2.2.2.2.1, f, n, M.2.2.2.2.2.2.2.2)
theorem cm_set_bad (l : Launch) (M : cm_S) {s v : Int32} (h : cb_iv s v = false) : cw_M l mm_X3_set 0 0 [.ref 0, .int s, .int v] (cm_h M) (some (.int (-nI 2))) (cm_h M) := by
  refine cw_enter cw_kX3_set (by decide) (Nat.le_of_ble_eq_true rfl) ?_
  exact cw_run cw_kX3_set cw_z 5 [false] [] [(_, _)] (And.intro (cm_isValue l _ _ _) (And.intro (Nat.le_refl _) (And.intro ((fun q => q (cb_n0.mpr h))) (cw_reti cw_kX3_set cw_z rfl rfl))))
theorem cm_set_need (l : Launch) (M : cm_S) {v : Int32} {t : Nat} (h : cb_iv (nI 0) v = true) (ht : cm_st M 3 = nI t) (h20 : t ≤ 20) (hg : v < cm_gt (cm_st M) t 0 (nI 0)) : cw_M l mm_X3_set 0 0 [.ref 0, .int (nI 0), .int v] (cm_h M) (some (.int (-nI 5))) (cm_h M) := by
  refine cw_enter cw_kX3_set (by decide) (Nat.le_of_ble_eq_true rfl) ?_
  exact cw_run cw_kX3_set cw_z 11 [true, false, false] [] [(_, _), (_, _)] (And.intro (cm_isValue l _ _ _) (And.intro (Nat.le_refl _) (And.intro (cb_nt.mpr h) (And.intro ((fun q => q rfl)) (And.intro (cm_greatestTold l M ht h20) (And.intro (Nat.le_refl _) (And.intro (Int32.not_le.mpr hg) (cw_reti cw_kX3_set cw_z rfl rfl))))))))
theorem cm_set_things (l : Launch) (M : cm_S) {v : Int32} {t u : Nat} (h : cb_iv (nI 0) v = true) (ht : cm_st M 3 = nI t) (h20 : t ≤ 20) (hg : ¬ v < cm_gt (cm_st M) t 0 (nI 0)) (hu : M.2.2.2.1 = nI u) (h6 : u ≤ 6) : cw_M l mm_X3_set 0 0 [.ref 0, .int (nI 0), .int v] (cm_h M) (some (.int (cm_st M 0))) (cm_h (cm_wst (cm_rec M u) (cm_an (upd (cm_st M) 0 v) t))) := by
  refine cw_enter cw_kX3_set (by decide) (Nat.le_of_ble_eq_true rfl) ?_
  have ab := cm_beginsAnew l (cm_wst (cm_rec M u) (upd (cm_st M) 0 v)) (t := t) (show upd (cm_st M) 0 v 3 = nI t by rw [pk_un (by omega)]; exact ht) h20
  exact cw_run cw_kX3_set cw_z 27 [true, false, true, false] [_, _] [(_, _), (_, _), (_, _), (_, _)] (And.intro (cm_isValue l _ _ _) (And.intro (Nat.le_refl _) (And.intro (cb_nt.mpr h) (And.intro ((fun q => q rfl)) (And.intro (cm_greatestTold l M ht h20) (And.intro (Nat.le_refl _) (And.intro (Int32.not_lt.mp hg) (And.intro (cm_record l M hu h6) (And.intro (Nat.le_refl _) (And.intro (rfl) (And.intro (Nat.le_of_ble_eq_true rfl) (And.intro (rfl) (And.intro (Nat.le_of_ble_eq_true rfl) (And.intro ((fun q => q rfl)) (And.intro (ab) (And.intro (Nat.le_refl _) (cw_reti cw_kX3_set cw_z rfl rfl)))))))))))))))))
theorem cm_set_other (l : Launch) (M : cm_S) {v : Int32} {j u : Nat} (hj : j = 1 ∨ j = 2) (h : cb_iv (nI j) v = true) (hu : M.2.2.2.1 = nI u) (h6 : u ≤ 6) : cw_M l mm_X3_set 0 0 [.ref 0, .int (nI j), .int v] (cm_h M) (some (.int (cm_st M j))) (cm_h (cm_wst (cm_rec M u) (upd (cm_st M) j v))) := by
  refine cw_enter cw_kX3_set (by decide) (Nat.le_of_ble_eq_true rfl) ?_
  have n0 : ¬ nI j = 0 := nI_ne0 (by omega) (by omega)
  have h1 := cm_isValue l (cm_h M) (nI j) v
  rw [h] at h1
  exact cw_run cw_kX3_set cw_z 21 [true, true, true] [_, _] [(_, _), (_, _)] (And.intro (h1) (And.intro (Nat.le_refl _) (And.intro (cb_nt.mpr rfl) (And.intro (n0) (And.intro (cm_record l M hu h6) (And.intro (Nat.le_refl _) (And.intro (rfl) (And.intro ((show j < 109 by omega)) (And.intro (rfl) (And.intro ((show j < 109 by omega)) (And.intro (n0) (cw_reti cw_kX3_set cw_z rfl rfl))))))))))))
/-- clauses of the pad told -/
def cm_add (f td : Nat → Int32) (t i : Nat) : Nat → Int32 := fun j => if 49 + t ≤ j ∧ j < 49 + t + i then td (j - 49 - t) else if j = 3 then nI (t + i) else f j
theorem cm_add_0 {f : Nat → Int32} {t : Nat} (ht : f 3 = nI t) (td : Nat → Int32) : cm_add f td t 0 = f := by
  funext j
  unfold cm_add
  rw [if_neg (by omega)]
  by_cases e : j = 3
  · subst e; rw [if_pos rfl]; exact ht.symm
  · rw [if_neg e]
theorem cm_add_3 (f td : Nat → Int32) (t i : Nat) : cm_add f td t i 3 = nI (t + i) := by
  unfold cm_add; rw [if_neg (by omega), if_pos rfl]
theorem cm_add_s (f td : Nat → Int32) (t i : Nat) : upd (upd (cm_add f td t i) (49 + (t + i)) (td i)) 3 (nI (t + (i + 1))) = cm_add f td t (i + 1) := by
  funext j
  unfold upd cm_add
  by_cases e3 : j = 3
  · subst e3; rw [if_pos rfl, if_neg (by omega), if_pos rfl]
  · rw [if_neg e3, if_neg e3, if_neg e3]
    by_cases e : j = 49 + (t + i)
    · subst e; rw [if_pos rfl, if_pos (by omega), show 49 + (t + i) - 49 - t = i by omega]
    · rw [if_neg e]
      by_cases q : 49 + t ≤ j ∧ j < 49 + t + i
      · rw [if_pos q, if_pos (by omega)]
      · rw [if_neg q, if_neg (by omega)]
/-- is a thing of the clauses from k on, n of them, too great? -/
def cm_big (td : Nat → Int32) (th : Int32) : Nat → Nat → Bool
  | 0, _ => false
  | n + 1, k => if th < cm_gi (td k) 9 1 (nI 0) then true else cm_big td th n (k + 1)
abbrev cm_td (M : cm_S) : Nat → Int32 := M.2.2.2.2.2.2.2.2.1
abbrev cm_tm (M : cm_S) : Int32 := M.2.2.2.2.2.2.2.2.2
theorem cm_rd_fault (l : Launch) (M M2 : cm_S) {x : Int32} (hf : cw_M l mm_X3_findFault 0 0 [.ref 0] (cm_h M) (some (.int x)) (cm_h M2)) (hx : ¬ x = -nI 6) : cw_M l mm_X3_read 0 0 [.ref 0] (cm_h M) (some (.int (-nI 3))) (cm_h M2) := by
  refine cw_enter cw_kX3_read (by decide) (Nat.le_of_ble_eq_true rfl) ?_
  exact cw_run cw_kX3_read cw_z 5 [false] [] [(_, _)] (And.intro (hf) (And.intro (Nat.le_refl _) (And.intro (hx) (cw_reti cw_kX3_read cw_z rfl rfl))))
theorem cm_rd_loop1 (l : Launch) (M0 M2 : cm_S) {m : Nat} (hm : cm_tm M2 = nI m) (h31 : m ≤ 31) {r : Option Value} {h1 : cw_H} : ∀ n k, k + n = m →
    (cm_big (cm_td M2) (cm_st M2 0) n k = true → r = some (.int (-nI 2)) ∧ h1 = cm_h M2) → (cm_big (cm_td M2) (cm_st M2 0) n k = false → cw_W l mm_X3_read 0 0 (cm_h M0) r h1 0 0 49 [(0, .ref 0)] [] (cm_h M2)) → cw_W l mm_X3_read 0 0 (cm_h M0) r h1 0 0 14 [(1, .int (nI k)), (0, .ref 0)] [] (cm_h M2) := by
  intro n
  induction n with
  | zero =>
    intro k hk k1 k2
    exact cw_run cw_kX3_read cw_z 4 [true] [] [] (And.intro ((show cm_tm M2 ≤ nI k by rw [hm]; exact nI_le (by omega) (by omega))) (cw_less [1] rfl (k2 rfl)))
  | succ n ih =>
    intro k hk k1 k2
    have h0 : ¬ cm_tm M2 ≤ nI k := by rw [hm]; exact nI_ge (by omega) (by omega)
    have ag := cm_greatestIn l (cm_h M2) (cm_td M2 k)
    unfold cm_big at k1 k2
    by_cases c : cm_st M2 0 < cm_gi (cm_td M2 k) 9 1 (nI 0)
    · rw [if_pos c] at k1
      obtain ⟨rfl, rfl⟩ := k1 rfl
      exact cw_run cw_kX3_read cw_z 15 [false, false] [_, _] [(_, _)] (And.intro (h0) (And.intro (rfl) (And.intro ((show k < 32 by omega)) (And.intro (ag) (And.intro (Nat.le_refl _) (And.intro (rfl) (And.intro (Nat.le_of_ble_eq_true rfl) (And.intro (Int32.not_le.mpr c) (cw_reti cw_kX3_read cw_z rfl rfl)))))))))
    · rw [if_neg c] at k1 k2
      have ih1 := ih (k + 1) (by omega) k1 k2
      rw [← nI_add k 1] at ih1
      exact cw_run cw_kX3_read cw_z 16 [false, true] [_, _] [(_, _)] (And.intro (h0) (And.intro (rfl) (And.intro ((show k < 32 by omega)) (And.intro (ag) (And.intro (Nat.le_refl _) (And.intro (rfl) (And.intro (Nat.le_of_ble_eq_true rfl) (And.intro (Int32.not_lt.mp c) (ih1)))))))))
theorem cm_rd_1 (l : Launch) (M M2 : cm_S) (hf : cw_M l mm_X3_findFault 0 0 [.ref 0] (cm_h M) (some (.int (-nI 6))) (cm_h M2)) {m : Nat} (hm : cm_tm M2 = nI m) (h31 : m ≤ 31) {r : Option Value} {h1 : cw_H}
    (k1 : cm_big (cm_td M2) (cm_st M2 0) m 0 = true → r = some (.int (-nI 2)) ∧ h1 = cm_h M2) (k2 : cm_big (cm_td M2) (cm_st M2 0) m 0 = false → cw_W l mm_X3_read 0 0 (cm_h M) r h1 0 0 49 [(0, .ref 0)] [] (cm_h M2)) : cw_M l mm_X3_read 0 0 [.ref 0] (cm_h M) r h1 := by
  refine cw_enter cw_kX3_read (by decide) (Nat.le_of_ble_eq_true rfl) ?_
  exact cw_run cw_kX3_read cw_z 6 [true] [] [(_, _)] (And.intro (hf) (And.intro (Nat.le_refl _) (And.intro (rfl) (cm_rd_loop1 l M M2 hm h31 m 0 (by omega) k1 k2))))
theorem cm_rd_big (l : Launch) (M M2 : cm_S) (hf : cw_M l mm_X3_findFault 0 0 [.ref 0] (cm_h M) (some (.int (-nI 6))) (cm_h M2)) {m : Nat} (hm : cm_tm M2 = nI m) (h31 : m ≤ 31) (hb : cm_big (cm_td M2) (cm_st M2 0) m 0 = true) : cw_M l mm_X3_read 0 0 [.ref 0] (cm_h M) (some (.int (-nI 2))) (cm_h M2) :=
  cm_rd_1 l M M2 hf hm h31 (fun _ => ⟨rfl, rfl⟩) (fun q => by rw [q] at hb; cases hb)
theorem cm_rd_many (l : Launch) (M M2 : cm_S) (hf : cw_M l mm_X3_findFault 0 0 [.ref 0] (cm_h M) (some (.int (-nI 6))) (cm_h M2)) {m t : Nat} (hm : cm_tm M2 = nI m) (h31 : m ≤ 31) (hb : cm_big (cm_td M2) (cm_st M2 0) m 0 = false) (ht : cm_st M2 3 = nI t) (h20 : t ≤ 20) (hx : 20 < t + m) : cw_M l mm_X3_read 0 0 [.ref 0] (cm_h M) (some (.int (-nI 4))) (cm_h M2) :=
  cm_rd_1 l M M2 hf hm h31 (fun q => by rw [q] at hb; cases hb) (fun _ =>
    cw_run cw_kX3_read cw_z 10 [false] [_] [] (And.intro (rfl) (And.intro (Nat.le_of_ble_eq_true rfl) (And.intro ((show ¬ cm_st M2 3 + cm_tm M2 ≤ nI 20 by rw [ht, hm, nI_add]; exact nI_ge hx (by omega))) (cw_reti cw_kX3_read cw_z rfl rfl)))))
theorem cm_rd_loop2 (l : Launch) (M0 M : cm_S) (f : Nat → Int32) {m t : Nat} (hm : cm_tm M = nI m) (hx : t + m ≤ 20) : ∀ n i, i + n = m → cw_W l mm_X3_read 0 0 (cm_h M0) (some (.int (nI (t + m)))) (cm_h (cm_wpl (cm_wst M (cm_an (cm_add f (cm_td M) t m) (t + m))) (nI 0))) 0 0 74 [(1, .int (nI i)), (0, .ref 0)] [] (cm_h (cm_wst M (cm_add f (cm_td M) t i))) := by
  intro n
  induction n with
  | zero =>
    intro i hi
    obtain rfl : i = m := by omega
    have e3 := cm_add_3 f (cm_td M) t i
    have ab := cm_beginsAnew l (cm_wpl (cm_wst M (cm_add f (cm_td M) t i)) (nI 0)) (t := t + i) e3 (by omega)
    have er : cm_an (cm_add f (cm_td M) t i) (t + i) 3 = nI (t + i) := by
      have z : ∀ g j, j < 9 → j ≠ 7 → j ≠ 6 → cm_gbk (nI 0) 0 g j = g j := fun g j hj h7 h6 => by
        unfold cm_gbk
        rw [pk_un h6, pk_un h7]
        unfold cm_zt
        rw [if_neg (by omega)]
        rfl
      unfold cm_an
      rw [z _ _ (by omega) (by omega) (by omega), cm_fgs_lo _ (by omega)]
      unfold cm_an0
      rw [pk_un (by omega), pk_un (by omega), pk_un (by omega), pk_un (by omega)]
      unfold cm_zc
      rw [if_neg (by omega), pk_un (by omega)]
      exact e3
    rw [← er]
    exact cw_run cw_kX3_read cw_z 13 [true] [_] [(_, _)] (And.intro ((show cm_tm M ≤ nI i by rw [hm]; exact Int32.le_refl _)) (And.intro (ab) (And.intro (Nat.le_refl _) (And.intro (rfl) (And.intro (Nat.le_of_ble_eq_true rfl) (cw_reti cw_kX3_read cw_z rfl rfl))))))
  | succ n ih =>
    intro i hi
    have h0 : ¬ cm_tm M ≤ nI i := by rw [hm]; exact nI_ge (by omega) (by omega)
    have e3 := cm_add_3 f (cm_td M) t i
    have ih1 := ih (i + 1) (by omega)
    rw [← cm_add_s f (cm_td M) t i] at ih1
    have e4 : nI (t + (i + 1)) = upd (cm_add f (cm_td M) t i) (49 + (t + i)) (cm_td M i) 3 + nI 1 := by rw [pk_un (by omega), e3, nI_add]; rfl
    rw [← nI_add i 1, e4] at ih1
    exact cw_run cw_kX3_read cw_z 27 [false] [_, _, _, _, _] [] (And.intro (h0) (And.intro (rfl) (And.intro (Nat.le_of_ble_eq_true rfl) (And.intro (rfl) (And.intro ((show i < 32 by omega)) (And.intro ((show nI 49 + cm_add f (cm_td M) t i 3 = nI (49 + (t + i)) by rw [e3, nI_add])) (And.intro ((show 49 + (t + i) < 109 by omega)) (And.intro (rfl) (And.intro (Nat.le_of_ble_eq_true rfl) (And.intro (rfl) (And.intro (Nat.le_of_ble_eq_true rfl) (ih1))))))))))))
theorem cm_rd_ok (l : Launch) (M M2 : cm_S) (hf : cw_M l mm_X3_findFault 0 0 [.ref 0] (cm_h M) (some (.int (-nI 6))) (cm_h M2)) {m t u : Nat} (hm : cm_tm M2 = nI m) (h31 : m ≤ 31) (hb : cm_big (cm_td M2) (cm_st M2 0) m 0 = false) (ht : cm_st M2 3 = nI t) (hx : t + m ≤ 20) (hu : M2.2.2.2.1 = nI u) (h6 : u ≤ 6) : cw_M l mm_X3_read 0 0 [.ref 0] (cm_h M) (some (.int (nI (t + m)))) (cm_h (cm_wpl (cm_wst (cm_rec M2 u) (cm_an (cm_add (cm_st M2) (cm_td M2) t m) (t + m))) (nI 0))) :=
  cm_rd_1 l M M2 hf hm h31 (fun q => by rw [q] at hb; cases hb) (fun _ => by
    have q := cm_rd_loop2 l M (cm_rec M2 u) (cm_st M2) (t := t) hm hx m 0 (by omega)
    have e0 : cm_add (cm_st M2) (cm_td (cm_rec M2 u)) t 0 = cm_st M2 := cm_add_0 ht _
    rw [e0] at q
    exact cw_run cw_kX3_read cw_z 13 [true] [_] [(_, _)] (And.intro (rfl) (And.intro (Nat.le_of_ble_eq_true rfl) (And.intro ((show cm_st M2 3 + cm_tm M2 ≤ nI 20 by rw [ht, hm, nI_add]; exact nI_le hx (by omega))) (And.intro (cm_record l M2 hu h6) (And.intro (Nat.le_refl _) (q)))))))
theorem cm_drop_no (l : Launch) (M : cm_S) {x : Int32} (h : cb_wi x (nI 0) (cm_st M 3 - nI 1) = false) : cw_M l mm_X3_drop 0 0 [.ref 0, .int x] (cm_h M) (some (.int (-nI 1))) (cm_h M) := by
  refine cw_enter cw_kX3_drop (by decide) (Nat.le_of_ble_eq_true rfl) ?_
  exact cw_run cw_kX3_drop cw_z 5 [false] [] [(_, _)] (And.intro (cm_isTold l M x) (And.intro (Nat.le_refl _) (And.intro ((fun q => q (cb_n0.mpr h))) (cw_reti cw_kX3_drop cw_z rfl rfl))))
theorem cm_drop_ok (l : Launch) (M : cm_S) {t k u : Nat} (h : cb_wi (nI k) (nI 0) (cm_st M 3 - nI 1) = true) (ht : cm_st M 3 = nI t) (h20 : t ≤ 20) (hk : k < t) (hu : M.2.2.2.1 = nI u) (h6 : u ≤ 6) : cw_M l mm_X3_drop 0 0 [.ref 0, .int (nI k)] (cm_h M) (some (.int (cm_tk (cm_st M) t k 3))) (cm_h (cm_wst (cm_rec M u) (cm_tk (cm_st M) t k))) := by
  refine cw_enter cw_kX3_drop (by decide) (Nat.le_of_ble_eq_true rfl) ?_
  have at1 := cm_takeAway l (cm_rec M u) (t := t) (k := k) ht h20 hk
  exact cw_run cw_kX3_drop cw_z 13 [true] [_] [(_, _), (_, _), (_, _)] (And.intro (cm_isTold l M _) (And.intro (Nat.le_refl _) (And.intro (cb_nt.mpr h) (And.intro (cm_record l M hu h6) (And.intro (Nat.le_refl _) (And.intro (at1) (And.intro (Nat.le_refl _) (And.intro (rfl) (And.intro (Nat.le_of_ble_eq_true rfl) (cw_reti cw_kX3_drop cw_z rfl rfl))))))))))
theorem cm_step_no (l : Launch) (M : cm_S) {x : Int32} (h : cb_wi x (nI 1) (nI 500) = false) : cw_M l mm_X3_step 0 0 [.ref 0, .int x] (cm_h M) (some (.int (-nI 2))) (cm_h M) := by
  refine cw_enter cw_kX3_step (by decide) (Nat.le_of_ble_eq_true rfl) ?_
  exact cw_run cw_kX3_step cw_z 6 [false] [] [(_, _)] (And.intro (cm_within l _ _ _ _) (And.intro (Nat.le_refl _) (And.intro ((fun q => q (cb_n0.mpr h))) (cw_reti cw_kX3_step cw_z rfl rfl))))
theorem cm_step_ok (l : Launch) (M : cm_S) {x : Int32} {u : Nat} {f : Nat → Int32} (h : cb_wi x (nI 1) (nI 500) = true) (hu : M.2.2.2.1 = nI u) (h6 : u ≤ 6) (hg : cw_M l mm_X3_goOn 0 0 [.ref 0, .int x] (cm_h (cm_rec M u)) none (cm_h (cm_wst (cm_rec M u) f))) : cw_M l mm_X3_step 0 0 [.ref 0, .int x] (cm_h M) (some (.int (f 5))) (cm_h (cm_wst (cm_rec M u) f)) := by
  refine cw_enter cw_kX3_step (by decide) (Nat.le_of_ble_eq_true rfl) ?_
  exact cw_run cw_kX3_step cw_z 14 [true] [_] [(_, _), (_, _), (_, _)] (And.intro (cm_within l _ _ _ _) (And.intro (Nat.le_refl _) (And.intro (cb_nt.mpr h) (And.intro (cm_record l M hu h6) (And.intro (Nat.le_refl _) (And.intro (hg) (And.intro (Nat.le_refl _) (And.intro (rfl) (And.intro (Nat.le_of_ble_eq_true rfl) (cw_reti cw_kX3_step cw_z rfl rfl))))))))))
theorem cm_back_no (l : Launch) (M : cm_S) {x : Int32} (h : cb_wi x (nI 0) (cm_st M 6) = false) : cw_M l mm_X3_back 0 0 [.ref 0, .int x] (cm_h M) (some (.int (-nI 2))) (cm_h M) := by
  refine cw_enter cw_kX3_back (by decide) (Nat.le_of_ble_eq_true rfl) ?_
  exact cw_run cw_kX3_back cw_z 9 [false] [_] [(_, _)] (And.intro (rfl) (And.intro (Nat.le_of_ble_eq_true rfl) (And.intro (cm_within l _ _ _ _) (And.intro (Nat.le_refl _) (And.intro ((fun q => q (cb_n0.mpr h))) (cw_reti cw_kX3_back cw_z rfl rfl))))))
theorem cm_back_never (l : Launch) (M : cm_S) {x : Int32} (h : cb_wi x (nI 0) (cm_st M 6) = true) (h5 : cm_st M 5 = nI 2) : cw_M l mm_X3_back 0 0 [.ref 0, .int x] (cm_h M) (some (.int (-nI 5))) (cm_h M) := by
  refine cw_enter cw_kX3_back (by decide) (Nat.le_of_ble_eq_true rfl) ?_
  exact cw_run cw_kX3_back cw_z 15 [true, false] [_, _] [(_, _)] (And.intro (rfl) (And.intro (Nat.le_of_ble_eq_true rfl) (And.intro (cm_within l _ _ _ _) (And.intro (Nat.le_refl _) (And.intro (cb_nt.mpr h) (And.intro (rfl) (And.intro (Nat.le_of_ble_eq_true rfl) (And.intro ((fun q => q h5)) (cw_reti cw_kX3_back cw_z rfl rfl)))))))))
theorem cm_back_ok (l : Launch) (M : cm_S) {x : Int32} {t n g u : Nat} (h : cb_wi x (nI 0) (cm_st M 6) = true) (h5 : ¬ cm_st M 5 = nI 2) (hB : cm_B (cm_st M) t n g) (hu : M.2.2.2.1 = nI u) (h6 : u ≤ 6) : cw_M l mm_X3_back 0 0 [.ref 0, .int x] (cm_h M) (some (.int (upd (cm_gbk x g (cm_st M)) 5 (nI 0) 7))) (cm_h (cm_wst (cm_rec M u) (upd (cm_gbk x g (cm_st M)) 5 (nI 0)))) := by
  refine cw_enter cw_kX3_back (by decide) (Nat.le_of_ble_eq_true rfl) ?_
  have ag := cm_goBack l (cm_rec M u) x (t := t) (n := n) (g := g) hB
  exact cw_run cw_kX3_back cw_z 28 [true, true] [_, _, _, _] [(_, _), (_, _), (_, _)] (And.intro (rfl) (And.intro (Nat.le_of_ble_eq_true rfl) (And.intro (cm_within l _ _ _ _) (And.intro (Nat.le_refl _) (And.intro (cb_nt.mpr h) (And.intro (rfl) (And.intro (Nat.le_of_ble_eq_true rfl) (And.intro (h5) (And.intro (cm_record l M hu h6) (And.intro (Nat.le_refl _) (And.intro (ag) (And.intro (Nat.le_refl _) (And.intro (rfl) (And.intro (Nat.le_of_ble_eq_true rfl) (And.intro (rfl) (And.intro (Nat.le_of_ble_eq_true rfl) (cw_reti cw_kX3_back cw_z rfl rfl)))))))))))))))))
