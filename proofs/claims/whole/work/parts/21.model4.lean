/-! the reference: learning, following, one step, many; beginning anew -/
def cm_rm (f : Nat → Int32) (t n : Nat) : Nat → Int32 := if n = 40 then cm_dr f t n (cm_mk f t n (-nI 6)).toNatClampNeg else f
def cm_n2 (n : Nat) : Nat := if n = 40 then 39 else n
def cm_ps (f : Nat → Int32) (t n : Nat) (c : Int32) : Nat → Int32 := upd (upd (upd f (49 + (t + n)) c) 4 (nI (n + 1))) 8 (f 8 + nI 1)
def cm_le (f : Nat → Int32) (g : Nat) : Nat → Int32 := if f 8 - f 8 / f 1 * f 1 = 0 then cm_gbk (nI 0) g f else f
theorem cm_le_3 (l : Launch) (M0 M : cm_S) {t n g : Nat} (c : Int32) (hB : cm_B (cm_st M) t n g) (hn : n ≤ 39) (hre : ¬ cm_st M 1 = 0) (hB3 : cm_B (cm_ps (cm_st M) t n c) t (n + 1) g) {lv : cw_LV} (hl : lv_pick lv [0, 1] = [(2, .int c), (0, .ref 0)]) : cw_W l mm_X3_learns 0 0 (cm_h M0) none (cm_h (cm_wst M (cm_le (cm_ps (cm_st M) t n c) g))) 0 0 30 lv [] (cm_h M) := by
  refine cw_less [0, 1] hl ?_
  have ht := hB.1
  have hnn := hB.2.1
  have i1 : nI 49 + (cm_st M 3 + cm_st M 4) = nI (49 + (t + n)) := by rw [ht.1, hnn.1, nI_add, nI_add]
  have e4 : upd (cm_st M) (49 + (t + n)) c 4 + nI 1 = nI (n + 1) := by rw [pk_un (by omega), hnn.1, nI_add]
  have e8 : upd (upd (cm_st M) (49 + (t + n)) c) 4 (nI (n + 1)) 8 = cm_st M 8 := by rw [pk_un (by omega), pk_un (by omega)]
  have e3 : cm_ps (cm_st M) t n c = upd (upd (upd (cm_st M) (49 + (t + n)) c) 4 (upd (cm_st M) (49 + (t + n)) c 4 + nI 1)) 8 (upd (upd (cm_st M) (49 + (t + n)) c) 4 (upd (cm_st M) (49 + (t + n)) c 4 + nI 1) 8 + nI 1) := by
    rw [e4, e8]; rfl
  have e1 : cm_ps (cm_st M) t n c 1 = cm_st M 1 := by unfold cm_ps; rw [pk_un (by omega), pk_un (by omega), pk_un (by omega)]
  have h1 : ¬ cm_ps (cm_st M) t n c 1 = 0 := by rw [e1]; exact hre
  by_cases d : cm_ps (cm_st M) t n c 8 - cm_ps (cm_st M) t n c 8 / cm_ps (cm_st M) t n c 1 * cm_ps (cm_st M) t n c 1 = 0
  · rw [cm_le, if_pos d]
    have ag := cm_goBack l (cm_wst M (cm_ps (cm_st M) t n c)) (nI 0) hB3
    generalize cm_gbk (nI 0) g (cm_st (cm_wst M (cm_ps (cm_st M) t n c))) = f9 at ag
    rw [e3] at h1 d ag
    exact cw_run cw_kX3_learns cw_z 37 [false] [_, _, _, _, _, _, _] [(_, _), (_, _)] (And.intro (cm_clauses l M) (And.intro (Nat.le_refl _) (And.intro (i1) (And.intro ((show 49 + (t + n) < 109 by omega)) (And.intro (rfl) (And.intro (Nat.le_of_ble_eq_true rfl) (And.intro (rfl) (And.intro (Nat.le_of_ble_eq_true rfl) (And.intro (rfl) (And.intro (Nat.le_of_ble_eq_true rfl) (And.intro (rfl) (And.intro (Nat.le_of_ble_eq_true rfl) (And.intro (rfl) (And.intro (Nat.le_of_ble_eq_true rfl) (And.intro (rfl) (And.intro (Nat.le_of_ble_eq_true rfl) (And.intro (h1) (And.intro ((fun q => q d)) (And.intro (ag) (And.intro (Nat.le_refl _) (cw_retv cw_kX3_learns cw_z rfl rfl)))))))))))))))))))))
  · rw [cm_le, if_neg d]
    rw [e3] at h1 d ⊢
    exact cw_run cw_kX3_learns cw_z 34 [true] [_, _, _, _, _, _, _] [(_, _)] (And.intro (cm_clauses l M) (And.intro (Nat.le_refl _) (And.intro (i1) (And.intro ((show 49 + (t + n) < 109 by omega)) (And.intro (rfl) (And.intro (Nat.le_of_ble_eq_true rfl) (And.intro (rfl) (And.intro (Nat.le_of_ble_eq_true rfl) (And.intro (rfl) (And.intro (Nat.le_of_ble_eq_true rfl) (And.intro (rfl) (And.intro (Nat.le_of_ble_eq_true rfl) (And.intro (rfl) (And.intro (Nat.le_of_ble_eq_true rfl) (And.intro (rfl) (And.intro (Nat.le_of_ble_eq_true rfl) (And.intro (h1) (And.intro (d) (cw_retv cw_kX3_learns cw_z rfl rfl)))))))))))))))))))
/-- what learning the clause c makes of the state -/
def cm_lf (f : Nat → Int32) (t n g : Nat) (c : Int32) : Nat → Int32 := cm_le (cm_ps (cm_rm (cm_gbk (cm_lb f c g 0 (nI 0)) g f) t n) t (cm_n2 n) c) (cm_gb (cm_lb f c g 0 (nI 0)) g 0 0 f).1
theorem cm_learns (l : Launch) (M : cm_S) {t n g g1 k N : Nat} {c : Int32} {f1 : Nat → Int32} (hk : k < 60) (hB : cm_B (cm_st M) t n g) (hR : cm_R (cm_st M)) (h : cm_ln (cm_st M) g N (cm_st M (49 + k)) = some c) (hf1 : f1 = cm_gbk (cm_lb (cm_st M) c g 0 (nI 0)) g (cm_st M)) (hg1 : g1 = (cm_gb (cm_lb (cm_st M) c g 0 (nI 0)) g 0 0 (cm_st M)).1)
    (hB1 : cm_B f1 t n g1) (hroom : n = 40 → ∃ k2, k2 < t + 40 ∧ cm_mk f1 t n (-nI 6) = nI k2) (hB2 : cm_B (cm_rm f1 t n) t (cm_n2 n) g1) (hre : ¬ cm_rm f1 t n 1 = 0) (hB3 : cm_B (cm_ps (cm_rm f1 t n) t (cm_n2 n) c) t (cm_n2 n + 1) g1) :
    cw_M l mm_X3_learns 0 0 [.ref 0, .int (nI k)] (cm_h M) none (cm_h (cm_wst M (cm_lf (cm_st M) t n g c))) := by
  refine cw_enter cw_kX3_learns (by decide) (Nat.le_of_ble_eq_true rfl) ?_
  have ag := cm_goBack l M (cm_lb (cm_st M) c g 0 (nI 0)) hB
  unfold cm_lf
  rw [← hf1] at ag ⊢
  rw [← hg1]
  have a0 := cm_learnt l M hk hB hR h
  have a1 := cm_levelBelow l M c hB
  generalize cm_lb (cm_st M) c g 0 (nI 0) = L at a1 ag
  refine cw_run cw_kX3_learns cw_z 9 [] [] [(_, _), (_, _), (_, _)] (And.intro (a0) (And.intro (Nat.le_refl _) (And.intro (a1) (And.intro (Nat.le_refl _) (And.intro (ag) (And.intro (Nat.le_refl _) ((show cw_W l mm_X3_learns 0 0 (cm_h M) none (cm_h (cm_wst M (cm_le (cm_ps (cm_rm f1 t n) t (cm_n2 n) c) g1))) 0 0 15 [(2, .int c), (0, .ref 0), (1, .int (nI k))] [] (cm_h (cm_wst M f1)) from ?_))))))))
  by_cases e : n = 40
  · obtain ⟨k2, hk2, hm⟩ := hroom e
    have ht2 : t ≤ 20 := hB.1.2
    have e2 : cm_rm f1 t n = cm_dr f1 t n k2 := by rw [cm_rm, if_pos e, hm, nI_clamp (by omega)]
    have hn2 : cm_n2 n = 39 := if_pos e
    have ar := cm_makeRoom l (cm_wst M f1) hB1 (by omega) (by omega) hm
    rw [e2] at hB2 hre hB3 ⊢
    have q := cm_le_3 l M (cm_wst M (cm_dr f1 t n k2)) c hB2 (by omega) hre hB3 (lv := [(2, .int c), (0, .ref 0), (1, .int (nI k))]) rfl
    have ar2 : cw_M l mm_X3_makeRoom 0 0 [.ref 0] (cm_h (cm_wst M f1)) none (cm_h (cm_wst M (cm_dr f1 t n k2))) := ar
    have e40 : ¬ ¬ f1 4 = nI 40 := fun q => q (by rw [hB1.2.1.1, e])
    generalize cm_dr f1 t n k2 = f2 at ar2 q ⊢
    exact cw_run cw_kX3_learns cw_z 8 [false] [_] [(_, _)] (And.intro (rfl) (And.intro (Nat.le_of_ble_eq_true rfl) (And.intro (e40) (And.intro (ar2) (And.intro (Nat.le_refl _) (q))))))
  · have e2 : cm_rm f1 t n = f1 := if_neg e
    have hn2 : cm_n2 n = n := if_neg e
    rw [e2] at hB2 hre hB3 ⊢
    have q := cm_le_3 l M (cm_wst M f1) c hB2 (by have := hB.2.1.2; omega) hre hB3 (lv := [(2, .int c), (0, .ref 0), (1, .int (nI k))]) rfl
    have e40 : ¬ f1 4 = nI 40 := fun q => e ((nI_eq (by have := hB.2.1.2; omega) (by omega)).mp (hB1.2.1.1.symm.trans q))
    exact cw_run cw_kX3_learns cw_z 6 [true] [_] [] (And.intro (rfl) (And.intro (Nat.le_of_ble_eq_true rfl) (And.intro (e40) (q))))
/-- the sign that follows out of a clause -/
def cm_fs (f : Nat → Int32) (c : Int32) : Nat → Nat → Int32 → Int32
  | 0, _, a => a
  | n + 1, s, a => cm_fs f c n (s + 1) (if bt c s = true ∧ f (19 + s % 10) = -nI 6 then nI s else a)
theorem cm_fs_loop (l : Launch) (M : cm_S) (k g : Nat) (c : Int32) {s0 : Nat} (h20 : s0 < 20) (hg : cm_st M 7 = nI g) (h8 : g ≤ 8) : ∀ n s a, s + n = 20 → cm_fs (cm_st M) c n s a = nI s0 → cw_W l mm_X3_follow 0 0 (cm_h M) none (cm_h (cm_wst M (cm_gv (cm_st M) g (s0 % 10) (cb_wa s0) (nI k)))) 0 0 16 [(4, .int (nI s)), (3, .int a), (2, .int c), (0, .ref 0), (1, .int (nI k))] [] (cm_h M) := by
  intro n
  induction n with
  | zero =>
    intro s a hs h
    obtain rfl : s = 20 := by omega
    unfold cm_fs at h
    subst h
    have ag : cw_M l mm_X3_gives 0 0 [.ref 0, .int (nI s0 - nI s0 / nI 10 * nI 10), .int (cb_wa s0), .int (nI k)] (cm_h M) none (cm_h (cm_wst M (cm_gv (cm_st M) g (s0 % 10) (cb_wa s0) (nI k)))) := by
      rw [cb_r10 (by omega)]
      exact cm_gives l M hg h8 (by omega) _ _
    exact cw_run cw_kX3_follow cw_z 11 [true] [] [(_, _), (_, _)] (And.intro ((show nI 20 ≤ nI 20 from Int32.le_refl _)) (And.intro ((show ¬ nI 10 = 0 by decide)) (And.intro (cm_wanted l _ (by omega)) (And.intro (Nat.le_refl _) (And.intro (ag) (And.intro (Nat.le_refl _) (cw_retv cw_kX3_follow cw_z rfl rfl)))))))
  | succ n ih =>
    intro s a hs h
    unfold cm_fs at h
    have h0 : ¬ nI 20 ≤ nI s := nI_ge (by omega) (by omega)
    have d0 : ¬ nI 10 = 0 := by decide
    cases b : bt c s with
    | false =>
      rw [if_neg (by rw [b]; simp)] at h
      have ih1 := ih (s + 1) a (by omega) h
      rw [← nI_add s 1] at ih1
      exact cw_run cw_kX3_follow cw_z 11 [false, true] [] [(_, _)] (And.intro (h0) (And.intro (cm_has l _ _ (by omega)) (And.intro (Nat.le_refl _) (And.intro (cb_n0.mpr b) (ih1)))))
    | true =>
      by_cases e : cm_st M (19 + s % 10) = -nI 6
      · rw [if_pos ⟨b, e⟩] at h
        have ih1 := ih (s + 1) (nI s) (by omega) h
        rw [← nI_add s 1] at ih1
        exact cw_run cw_kX3_follow cw_z 19 [false, false, false] [] [(_, _), (_, _)] (And.intro (h0) (And.intro (cm_has l _ _ (by omega)) (And.intro (Nat.le_refl _) (And.intro (cb_nt.mpr b) (And.intro (d0) (And.intro (cm_valueOfR l M (by omega)) (And.intro (Nat.le_refl _) (And.intro ((fun q => q e)) (ih1)))))))))
      · rw [if_neg (fun q => e q.2)] at h
        have ih1 := ih (s + 1) a (by omega) h
        rw [← nI_add s 1] at ih1
        exact cw_run cw_kX3_follow cw_z 18 [false, false, true] [] [(_, _), (_, _)] (And.intro (h0) (And.intro (cm_has l _ _ (by omega)) (And.intro (Nat.le_refl _) (And.intro (cb_nt.mpr b) (And.intro (d0) (And.intro (cm_valueOfR l M (by omega)) (And.intro (Nat.le_refl _) (And.intro (e) (ih1)))))))))
theorem cm_follow (l : Launch) (M : cm_S) {k g s0 : Nat} (hk : k < 60) (h20 : s0 < 20) (hg : cm_st M 7 = nI g) (h8 : g ≤ 8) (h : cm_fs (cm_st M) (cm_st M (49 + k)) 19 1 (-nI 6) = nI s0) : cw_M l mm_X3_follow 0 0 [.ref 0, .int (nI k)] (cm_h M) none (cm_h (cm_wst M (cm_gv (cm_st M) g (s0 % 10) (cb_wa s0) (nI k)))) := by
  refine cw_enter cw_kX3_follow (by decide) (Nat.le_of_ble_eq_true rfl) ?_
  exact cw_run cw_kX3_follow cw_z 11 [] [_] [] (And.intro (nI_add 49 k) (And.intro ((show 49 + k < 109 by omega)) (cm_fs_loop l M k g _ h20 hg h8 19 1 _ (by omega) h)))
/-- one step, in its five forms -/
def cm_s0 (f : Nat → Int32) : Nat → Int32 := upd f 9 (f 9 + nI 1)
theorem cm_goes_never (l : Launch) (M : cm_S) {t n g k : Nat} (hB : cm_B (cm_s0 (cm_st M)) t n g) (hc : cm_fo (cm_s0 (cm_st M)) (t + n) (-nI 6) = nI k) (hk : k < 60) (h6 : cm_s0 (cm_st M) 6 = 0) : cw_M l mm_X3_goes 0 0 [.ref 0] (cm_h M) none (cm_h (cm_wst M (upd (cm_s0 (cm_st M)) 5 (nI 2)))) := by
  refine cw_enter cw_kX3_goes (by decide) (Nat.le_of_ble_eq_true rfl) ?_
  have a0 := cm_falseOne l (cm_wst M (cm_s0 (cm_st M))) hB
  rw [show cm_fo (cm_st (cm_wst M (cm_s0 (cm_st M)))) (t + n) (-nI 6) = nI k from hc] at a0
  have n6 : ¬ nI k = -nI 6 := by
    have : -nI 6 < nI 0 := by decide
    intro q; rw [← q] at this; exact nI_nlt (by omega) (by omega) this
  exact cw_run cw_kX3_goes cw_z 25 [false, false] [_, _, _, _] [(_, _)] (And.intro (rfl) (And.intro (Nat.le_of_ble_eq_true rfl) (And.intro (rfl) (And.intro (Nat.le_of_ble_eq_true rfl) (And.intro (a0) (And.intro (Nat.le_refl _) (And.intro (n6) (And.intro (rfl) (And.intro (Nat.le_of_ble_eq_true rfl) (And.intro ((fun q => q h6)) (And.intro (rfl) (And.intro (Nat.le_of_ble_eq_true rfl) (cw_retv cw_kX3_goes cw_z rfl rfl)))))))))))))
theorem cm_n6 {k : Nat} (hk : k < 2 ^ 31) : ¬ nI k = -nI 6 := by
  have : -nI 6 < nI 0 := by decide
  intro q; rw [← q] at this; exact nI_nlt (by omega) (by omega) this
theorem cm_goes_learn (l : Launch) (M : cm_S) {t n g k : Nat} {f' : Nat → Int32} (hB : cm_B (cm_s0 (cm_st M)) t n g) (hc : cm_fo (cm_s0 (cm_st M)) (t + n) (-nI 6) = nI k) (hk : k < 60) (h6 : ¬ cm_s0 (cm_st M) 6 = 0) (hl : cw_M l mm_X3_learns 0 0 [.ref 0, .int (nI k)] (cm_h (cm_wst M (cm_s0 (cm_st M)))) none (cm_h (cm_wst M f'))) : cw_M l mm_X3_goes 0 0 [.ref 0] (cm_h M) none (cm_h (cm_wst M f')) := by
  refine cw_enter cw_kX3_goes (by decide) (Nat.le_of_ble_eq_true rfl) ?_
  have a0 := cm_falseOne l (cm_wst M (cm_s0 (cm_st M))) hB
  rw [show cm_fo (cm_st (cm_wst M (cm_s0 (cm_st M)))) (t + n) (-nI 6) = nI k from hc] at a0
  exact cw_run cw_kX3_goes cw_z 22 [false, true] [_, _, _] [(_, _), (_, _)] (And.intro (rfl) (And.intro (Nat.le_of_ble_eq_true rfl) (And.intro (rfl) (And.intro (Nat.le_of_ble_eq_true rfl) (And.intro (a0) (And.intro (Nat.le_refl _) (And.intro (cm_n6 (by omega)) (And.intro (rfl) (And.intro (Nat.le_of_ble_eq_true rfl) (And.intro (h6) (And.intro (hl) (And.intro (Nat.le_refl _) (cw_retv cw_kX3_goes cw_z rfl rfl)))))))))))))
theorem cm_goes_follow (l : Launch) (M : cm_S) {t n g k : Nat} {f' : Nat → Int32} (hB : cm_B (cm_s0 (cm_st M)) t n g) (hc : cm_fo (cm_s0 (cm_st M)) (t + n) (-nI 6) = -nI 6) (hw : cm_fw (cm_s0 (cm_st M)) (t + n) (-nI 6) = nI k) (hk : k < 60) (hl : cw_M l mm_X3_follow 0 0 [.ref 0, .int (nI k)] (cm_h (cm_wst M (cm_s0 (cm_st M)))) none (cm_h (cm_wst M f'))) : cw_M l mm_X3_goes 0 0 [.ref 0] (cm_h M) none (cm_h (cm_wst M f')) := by
  refine cw_enter cw_kX3_goes (by decide) (Nat.le_of_ble_eq_true rfl) ?_
  have a0 := cm_falseOne l (cm_wst M (cm_s0 (cm_st M))) hB
  rw [show cm_fo (cm_st (cm_wst M (cm_s0 (cm_st M)))) (t + n) (-nI 6) = -nI 6 from hc] at a0
  have a1 := cm_followingOne l (cm_wst M (cm_s0 (cm_st M))) hB
  rw [show cm_fw (cm_st (cm_wst M (cm_s0 (cm_st M)))) (t + n) (-nI 6) = nI k from hw] at a1
  exact cw_run cw_kX3_goes cw_z 23 [true, false] [_, _] [(_, _), (_, _), (_, _)] (And.intro (rfl) (And.intro (Nat.le_of_ble_eq_true rfl) (And.intro (rfl) (And.intro (Nat.le_of_ble_eq_true rfl) (And.intro (a0) (And.intro (Nat.le_refl _) (And.intro (rfl) (And.intro (a1) (And.intro (Nat.le_refl _) (And.intro (cm_n6 (by omega)) (And.intro (hl) (And.intro (Nat.le_refl _) (cw_retv cw_kX3_goes cw_z rfl rfl)))))))))))))
theorem cm_goes_decide (l : Launch) (M : cm_S) {t n g th x : Nat} (hB : cm_B (cm_s0 (cm_st M)) t n g) (hth : cm_s0 (cm_st M) 0 = nI th) (h9 : th ≤ 9) (hc : cm_fo (cm_s0 (cm_st M)) (t + n) (-nI 6) = -nI 6) (hw : cm_fw (cm_s0 (cm_st M)) (t + n) (-nI 6) = -nI 6) (hlo : cm_lw (cm_s0 (cm_st M)) th (-nI 6) = nI x) (hx : x ≤ 9) (h8 : g ≤ 8) : cw_M l mm_X3_goes 0 0 [.ref 0] (cm_h M) none (cm_h (cm_wst M (cm_gv (upd (cm_s0 (cm_st M)) 6 (cm_s0 (cm_st M) 6 + nI 1)) g x (cm_s0 (cm_st M) 2) (-nI 6)))) := by
  refine cw_enter cw_kX3_goes (by decide) (Nat.le_of_ble_eq_true rfl) ?_
  have a0 := cm_falseOne l (cm_wst M (cm_s0 (cm_st M))) hB
  rw [show cm_fo (cm_st (cm_wst M (cm_s0 (cm_st M)))) (t + n) (-nI 6) = -nI 6 from hc] at a0
  have a1 := cm_followingOne l (cm_wst M (cm_s0 (cm_st M))) hB
  rw [show cm_fw (cm_st (cm_wst M (cm_s0 (cm_st M)))) (t + n) (-nI 6) = -nI 6 from hw] at a1
  have a2 := cm_lowestOpen l (cm_wst M (cm_s0 (cm_st M))) hth h9
  rw [show cm_lw (cm_st (cm_wst M (cm_s0 (cm_st M)))) th (-nI 6) = nI x from hlo] at a2
  have a3 := cm_gives l (cm_wst M (upd (cm_s0 (cm_st M)) 6 (cm_s0 (cm_st M) 6 + nI 1))) (g := g) (x := x) (show upd (cm_s0 (cm_st M)) 6 (cm_s0 (cm_st M) 6 + nI 1) 7 = nI g by rw [pk_un (by omega)]; exact hB.2.2.1.1) h8 hx (upd (cm_s0 (cm_st M)) 6 (cm_s0 (cm_st M) 6 + nI 1) 2) (-nI 6)
  have e2 : cm_s0 (cm_st M) 2 = upd (cm_s0 (cm_st M)) 6 (cm_s0 (cm_st M) 6 + nI 1) 2 := by rw [pk_un (by omega)]
  rw [e2]
  exact cw_run cw_kX3_goes cw_z 42 [true, true, false] [_, _, _, _, _] [(_, _), (_, _), (_, _), (_, _)] (And.intro (rfl) (And.intro (Nat.le_of_ble_eq_true rfl) (And.intro (rfl) (And.intro (Nat.le_of_ble_eq_true rfl) (And.intro (a0) (And.intro (Nat.le_refl _) (And.intro (rfl) (And.intro (a1) (And.intro (Nat.le_refl _) (And.intro (rfl) (And.intro (a2) (And.intro (Nat.le_refl _) (And.intro (cm_n6 (by omega)) (And.intro (rfl) (And.intro (Nat.le_of_ble_eq_true rfl) (And.intro (rfl) (And.intro (Nat.le_of_ble_eq_true rfl) (And.intro (rfl) (And.intro (Nat.le_of_ble_eq_true rfl) (And.intro (a3) (And.intro (Nat.le_refl _) (cw_retv cw_kX3_goes cw_z rfl rfl))))))))))))))))))))))
theorem cm_goes_fits (l : Launch) (M : cm_S) {t n g th : Nat} (hB : cm_B (cm_s0 (cm_st M)) t n g) (hth : cm_s0 (cm_st M) 0 = nI th) (h9 : th ≤ 9) (hc : cm_fo (cm_s0 (cm_st M)) (t + n) (-nI 6) = -nI 6) (hw : cm_fw (cm_s0 (cm_st M)) (t + n) (-nI 6) = -nI 6) (hlo : cm_lw (cm_s0 (cm_st M)) th (-nI 6) = -nI 6) : cw_M l mm_X3_goes 0 0 [.ref 0] (cm_h M) none (cm_h (cm_wst M (upd (cm_s0 (cm_st M)) 5 (nI 1)))) := by
  refine cw_enter cw_kX3_goes (by decide) (Nat.le_of_ble_eq_true rfl) ?_
  have a0 := cm_falseOne l (cm_wst M (cm_s0 (cm_st M))) hB
  rw [show cm_fo (cm_st (cm_wst M (cm_s0 (cm_st M)))) (t + n) (-nI 6) = -nI 6 from hc] at a0
  have a1 := cm_followingOne l (cm_wst M (cm_s0 (cm_st M))) hB
  rw [show cm_fw (cm_st (cm_wst M (cm_s0 (cm_st M)))) (t + n) (-nI 6) = -nI 6 from hw] at a1
  have a2 := cm_lowestOpen l (cm_wst M (cm_s0 (cm_st M))) hth h9
  rw [show cm_lw (cm_st (cm_wst M (cm_s0 (cm_st M)))) th (-nI 6) = -nI 6 from hlo] at a2
  exact cw_run cw_kX3_goes cw_z 31 [true, true, true] [_, _, _] [(_, _), (_, _), (_, _)] (And.intro (rfl) (And.intro (Nat.le_of_ble_eq_true rfl) (And.intro (rfl) (And.intro (Nat.le_of_ble_eq_true rfl) (And.intro (a0) (And.intro (Nat.le_refl _) (And.intro (rfl) (And.intro (a1) (And.intro (Nat.le_refl _) (And.intro (rfl) (And.intro (a2) (And.intro (Nat.le_refl _) (And.intro (rfl) (And.intro (rfl) (And.intro (Nat.le_of_ble_eq_true rfl) (cw_retv cw_kX3_goes cw_z rfl rfl))))))))))))))))
/-- many steps, beside a search's: Rl is what holds between them -/
theorem cm_go_loop (l : Launch) (M0 M : cm_S) (Rl : cs_S → (Nat → Int32) → Prop) (h5 : ∀ S f, Rl S f → (f 5 = 0 ↔ cs_sd S = 0)) (hstep : ∀ S f, Rl S f → cs_sd S = 0 → ∃ f', Rl (cs_stp1 S) f' ∧ cw_M l mm_X3_goes 0 0 [.ref 0] (cm_h (cm_wst M f)) none (cm_h (cm_wst M f'))) {N : Nat} (hN : N < 2 ^ 31) : ∀ n i S f, i + n = N → Rl S f → ∃ f', Rl (cs_runs n S) f' ∧ cw_W l mm_X3_goOn 0 0 (cm_h M0) none (cm_h (cm_wst M f')) 0 0 2 [(2, .int (nI i)), (0, .ref 0), (1, .int (nI N))] [] (cm_h (cm_wst M f)) := by
  intro n
  induction n with
  | zero =>
    intro i S f hi hR
    obtain rfl : i = N := by omega
    exact ⟨f, hR, cw_run cw_kX3_goOn cw_z 3 [true] [] [] (And.intro ((show nI i ≤ nI i from Int32.le_refl _)) (cw_retv cw_kX3_goOn cw_z rfl rfl))⟩
  | succ n ih =>
    intro i S f hi hR
    have h0 : ¬ nI N ≤ nI i := nI_ge (by omega) hN
    by_cases c : cs_sd S = 0
    · obtain ⟨f1, hR1, hg⟩ := hstep S f hR c
      obtain ⟨f2, hR2, ih1⟩ := ih (i + 1) (cs_stp1 S) f1 (by omega) hR1
      rw [← nI_add i 1] at ih1
      refine ⟨f2, by rw [cs_runs, if_pos c]; exact hR2, ?_⟩
      have c5 : f 5 = 0 := (h5 S f hR).mpr c
      exact cw_run cw_kX3_goOn cw_z 12 [false, false] [_] [(_, _)] (And.intro (h0) (And.intro (rfl) (And.intro (Nat.le_of_ble_eq_true rfl) (And.intro ((fun q => q c5)) (And.intro (hg) (And.intro (Nat.le_refl _) (ih1)))))))
    · refine ⟨f, by rw [cs_runs, if_neg c]; exact hR, ?_⟩
      have c5 : ¬ f 5 = 0 := fun q => c ((h5 S f hR).mp q)
      exact cw_run cw_kX3_goOn cw_z 8 [false, true] [_] [] (And.intro (h0) (And.intro (rfl) (And.intro (Nat.le_of_ble_eq_true rfl) (And.intro (c5) (cw_retv cw_kX3_goOn cw_z rfl rfl)))))
theorem cm_goOn (l : Launch) (M : cm_S) (Rl : cs_S → (Nat → Int32) → Prop) (h5 : ∀ S f, Rl S f → (f 5 = 0 ↔ cs_sd S = 0)) (hstep : ∀ S f, Rl S f → cs_sd S = 0 → ∃ f', Rl (cs_stp1 S) f' ∧ cw_M l mm_X3_goes 0 0 [.ref 0] (cm_h (cm_wst M f)) none (cm_h (cm_wst M f'))) {N : Nat} (hN : N < 2 ^ 31) {S : cs_S} {f : Nat → Int32} (hR : Rl S f) : ∃ f', Rl (cs_runs N S) f' ∧ cw_M l mm_X3_goOn 0 0 [.ref 0, .int (nI N)] (cm_h (cm_wst M f)) none (cm_h (cm_wst M f')) := by
  obtain ⟨f', h1, h2⟩ := cm_go_loop l (cm_wst M f) M Rl h5 hstep hN N 0 S f (by omega) hR
  refine ⟨f', h1, ?_⟩
  refine cw_enter cw_kX3_goOn (by decide) (Nat.le_of_ble_eq_true rfl) ?_
  exact cw_run cw_kX3_goOn cw_z 2 [] [] [] h2
