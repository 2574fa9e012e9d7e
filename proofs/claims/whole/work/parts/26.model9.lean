/-! the reference: texts, undo, saving -/
def cm_rs (x : Int64) : Nat → Int64
  | 0 => x
  | m + 1 => ((cm_rs x m).toUInt64 >>> ((nI 8).toInt64.toUInt64 &&& Int64.toUInt64 63)).toInt64
/-- how many characters, are all of them such -/
def cm_pl (x : Int64) : Nat → Nat → Bool → Nat × Bool
  | 0, m, b => (m, b)
  | n + 1, m, b => if lg_cmp (cm_rs x m &&& 255) (Int64.ofNat 0) = 0 then (m, b) else cm_pl x n (m + 1) (b && cb_wi (cm_rs x m &&& 255).toInt32 (nI 33) (nI 126))
theorem cm_pl_le (x : Int64) : ∀ n m b, (cm_pl x n m b).1 ≤ m + n
  | 0, _, _ => Nat.le_refl _
  | n + 1, m, b => by
    unfold cm_pl
    split
    · show m ≤ _; omega
    · have := cm_pl_le x n (m + 1) (b && cb_wi (cm_rs x m &&& 255).toInt32 (nI 33) (nI 126)); omega
theorem cm_pt_loop1 (l : Launch) (M : cm_S) (x : Int64) {r : Option Value} {h1 : cw_H} : ∀ n m b, m + n = 8 → (∀ y, y = cm_pl x n m b → cw_W l mm_X3_put 0 0 (cm_h M) r h1 0 0 67 [(3, .int (nI y.1)), (4, .long (cm_rs x y.1)), (6, .int (cb_n y.2)), (0, .ref 0), (1, .long x)] [] (cm_h M)) → cw_W l mm_X3_put 0 0 (cm_h M) r h1 0 0 8 [(3, .int (nI m)), (4, .long (cm_rs x m)), (6, .int (cb_n b)), (0, .ref 0), (1, .long x)] [] (cm_h M) := by
  intro n
  induction n with
  | zero =>
    intro m b hm k
    obtain rfl : m = 8 := by omega
    exact cw_run cw_kX3_put cw_z 3 [true] [] [] (And.intro ((show nI 8 ≤ nI 8 from Int32.le_refl _)) (k _ rfl))
  | succ n ih =>
    intro m b hm k
    have h0 : ¬ nI 8 ≤ nI m := nI_ge (by omega) (by omega)
    unfold cm_pl at k
    by_cases c : lg_cmp (cm_rs x m &&& 255) (Int64.ofNat 0) = 0
    · rw [if_pos c] at k
      exact cw_run cw_kX3_put cw_z 9 [false, true] [] [] (And.intro (h0) (And.intro (c) (k _ rfl)))
    · rw [if_neg c] at k
      have ih1 := ih (m + 1) _ (by omega) k
      rw [← nI_add m 1] at ih1
      cases b with
      | false => exact cw_run cw_kX3_put cw_z 19 [false, false, true] [] [] (And.intro (h0) (And.intro (c) (And.intro (cb_n0.mpr rfl) (ih1))))
      | true =>
        rw [Bool.true_and] at ih1
        have aw := cm_within l (cm_h M) (cm_rs x m &&& 255).toInt32 (nI 33) (nI 126)
        generalize cb_wi (cm_rs x m &&& 255).toInt32 (nI 33) (nI 126) = b2 at aw ih1
        cases b2 with
        | true => exact cw_run cw_kX3_put cw_z 28 [false, false, false, false] [] [(_, _)] (And.intro (h0) (And.intro (c) (And.intro (cb_nt.mpr rfl) (And.intro (aw) (And.intro (Nat.le_refl _) (And.intro (cb_nt.mpr rfl) (ih1)))))))
        | false => exact cw_run cw_kX3_put cw_z 27 [false, false, false, true] [] [(_, _)] (And.intro (h0) (And.intro (c) (And.intro (cb_nt.mpr rfl) (And.intro (aw) (And.intro (Nat.le_refl _) (And.intro (cb_n0.mpr rfl) (ih1)))))))
def cm_pa (x : Int64) : Nat → Nat → (Nat → Int32) → Nat → Int32
  | 0, _, f => f
  | m + 1, n, f => cm_pa x m (n + 1) (upd f n (cp_cd x m))
theorem cm_pt_loop2 (l : Launch) (M0 M : cm_S) (x : Int64) : ∀ m n f lv', n + m ≤ 60 → cw_W l mm_X3_put 0 0 (cm_h M0) (some (.int (nI (n + m)))) (cm_h (cm_wpp M (cm_pa x m n f) (nI (n + m)))) 0 0 105 ([(7, .int (nI m - nI 1)), (0, .ref 0), (1, .long x)] ++ lv') [] (cm_h (cm_wpp M f (nI n))) := by
  intro m
  induction m with
  | zero =>
    intro n f lv' hm
    exact cw_less [0, 1, 2] rfl (cw_run cw_kX3_put cw_z 4 [true] [] [] (And.intro ((show nI 0 - nI 1 < 0 by decide)) (cw_reti cw_kX3_put cw_z rfl rfl)))
  | succ m ih =>
    intro n f lv' hm
    have e0 : nI (m + 1) - nI 1 = nI m := by rw [pk_sub (by omega)]; rfl
    rw [e0, show n + (m + 1) = (n + 1) + m by omega]
    refine cw_less [0, 1, 2] rfl ?_
    have ih1 := ih (n + 1) (upd f n (cp_cd x m)) [] (by omega)
    rw [← cb_m] at ih1
    have e1 : cm_wpp M (upd f n (cp_cd x m)) (nI (n + 1)) = cm_wpp M (upd f n (cp_cd x m)) (nI n + nI 1) := by rw [nI_add]
    rw [e1] at ih1
    exact cw_run cw_kX3_put cw_z 23 [false] [_] [] (And.intro (nI_pos (by omega)) (And.intro (rfl) (And.intro ((show n < 60 by omega)) (ih1))))
theorem cm_put_1 (l : Launch) (M : cm_S) (x : Int64) {r : Option Value} {h1 : cw_H} (k : cw_W l mm_X3_put 0 0 (cm_h M) r h1 0 0 67 [(3, .int (nI (cm_pl x 8 0 true).1)), (4, .long (cm_rs x (cm_pl x 8 0 true).1)), (6, .int (cb_n (cm_pl x 8 0 true).2)), (0, .ref 0), (1, .long x)] [] (cm_h M)) : cw_M l mm_X3_put 0 0 [.ref 0, .long x] (cm_h M) r h1 := by
  refine cw_enter cw_kX3_put (by decide) (Nat.le_of_ble_eq_true rfl) ?_
  have q := cm_pt_loop1 l M x 8 0 true (by omega) (fun y hy => by subst hy; exact k)
  exact cw_run cw_kX3_put cw_z 6 [] [] [] (cw_less [2, 1, 0, 3, 4] rfl q)
theorem cm_put_bad (l : Launch) (M : cm_S) (x : Int64) (h : (cm_pl x 8 0 true).1 = 0 ∨ (cm_pl x 8 0 true).2 = false ∨ ¬ lg_cmp (cm_rs x (cm_pl x 8 0 true).1) (Int64.ofNat 0) = 0) : cw_M l mm_X3_put 0 0 [.ref 0, .long x] (cm_h M) (some (.int (-nI 2))) (cm_h M) := by
  refine cm_put_1 l M x ?_
  have hle := cm_pl_le x 8 0 true
  generalize cm_pl x 8 0 true = y at h hle ⊢
  by_cases a : y.1 = 0
  · exact cw_run cw_kX3_put cw_z 3 [true] [] [] (And.intro ((show nI y.1 = 0 by rw [a]; rfl)) (cw_reti cw_kX3_put cw_z rfl rfl))
  · have n0 : ¬ nI y.1 = 0 := nI_ne0 (by omega) (by omega)
    cases b : y.2 with
    | false => exact cw_run cw_kX3_put cw_z 5 [false, true] [] [] (And.intro (n0) (And.intro (cb_n0.mpr rfl) (cw_reti cw_kX3_put cw_z rfl rfl)))
    | true =>
      have c := (h.resolve_left a).resolve_left (by rw [b]; decide)
      exact cw_run cw_kX3_put cw_z 9 [false, false, false] [] [] (And.intro (n0) (And.intro (cb_nt.mpr rfl) (And.intro (c) (cw_reti cw_kX3_put cw_z rfl rfl))))
theorem cm_put_many (l : Launch) (M : cm_S) (x : Int64) {N m : Nat} (hN : M.2.2.2.2.2.2.2.1 = nI N) (h60 : N ≤ 60) (hy : cm_pl x 8 0 true = (m, true)) (hm : 0 < m) (hz : lg_cmp (cm_rs x m) (Int64.ofNat 0) = 0) (hx : 60 < N + m) : cw_M l mm_X3_put 0 0 [.ref 0, .long x] (cm_h M) (some (.int (-nI 4))) (cm_h M) := by
  refine cm_put_1 l M x ?_
  have hle := cm_pl_le x 8 0 true
  rw [hy] at hle ⊢
  have hle2 : m ≤ 0 + 8 := hle
  exact cw_run cw_kX3_put cw_z 15 [false, false, true, false] [] [] (And.intro (nI_ne0 hm (by omega)) (And.intro (cb_nt.mpr rfl) (And.intro (hz) (And.intro ((show ¬ M.2.2.2.2.2.2.2.1 + nI m ≤ nI 60 by rw [hN, nI_add]; exact nI_ge hx (by omega))) (cw_reti cw_kX3_put cw_z rfl rfl)))))
theorem cm_put_ok (l : Launch) (M : cm_S) (x : Int64) {N m : Nat} (hN : M.2.2.2.2.2.2.2.1 = nI N) (hy : cm_pl x 8 0 true = (m, true)) (hm : 0 < m) (hz : lg_cmp (cm_rs x m) (Int64.ofNat 0) = 0) (hx : N + m ≤ 60) : cw_M l mm_X3_put 0 0 [.ref 0, .long x] (cm_h M) (some (.int (nI (N + m)))) (cm_h (cm_wpp M (cm_pa x m N (cm_pd M)) (nI (N + m)))) := by
  refine cm_put_1 l M x ?_
  rw [hy]
  obtain ⟨st, kp, hi, rc, sl, sv, pd, pl, r⟩ := M
  replace hN : pl = nI N := hN
  subst hN
  have q := cm_pt_loop2 l (st, kp, hi, rc, sl, sv, pd, nI N, r) (st, kp, hi, rc, sl, sv, pd, nI N, r) x m N pd [] hx
  exact cw_run cw_kX3_put cw_z 18 [false, false, true, true] [] [] (And.intro (nI_ne0 hm (by omega)) (And.intro (cb_nt.mpr rfl) (And.intro (hz) (And.intro ((show nI N + nI m ≤ nI 60 by rw [nI_add]; exact nI_le hx (by omega))) (cw_less [0, 4, 5] rfl q)))))
theorem cm_wipe (l : Launch) (M : cm_S) : cw_M l mm_X3_wipe 0 0 [.ref 0] (cm_h M) (some (.int M.2.2.2.2.2.2.2.1)) (cm_h (cm_wpl M (nI 0))) := by
  refine cw_enter cw_kX3_wipe (by decide) (Nat.le_of_ble_eq_true rfl) ?_
  exact cw_run cw_kX3_wipe cw_z 7 [] [] [] (cw_reti cw_kX3_wipe cw_z rfl rfl)
theorem cm_fault (l : Launch) (M M2 : cm_S) {x : Int32} (hf : cw_M l mm_X3_findFault 0 0 [.ref 0] (cm_h M) (some (.int x)) (cm_h M2)) : cw_M l mm_X3_fault 0 0 [.ref 0] (cm_h M) (some (.int x)) (cm_h M2) := by
  refine cw_enter cw_kX3_fault (by decide) (Nat.le_of_ble_eq_true rfl) ?_
  exact cw_run cw_kX3_fault cw_z 2 [] [] [(_, _)] (And.intro (hf) (And.intro (Nat.le_refl _) (cw_reti cw_kX3_fault cw_z rfl rfl)))
theorem cm_undo_no (l : Launch) (M : cm_S) (h : M.2.2.2.1 = 0) : cw_M l mm_X3_undo 0 0 [.ref 0] (cm_h M) (some (.int (-nI 5))) (cm_h M) := by
  refine cw_enter cw_kX3_undo (by decide) (Nat.le_of_ble_eq_true rfl) ?_
  exact cw_run cw_kX3_undo cw_z 4 [false] [] [] (And.intro ((fun q => q h)) (cw_reti cw_kX3_undo cw_z rfl rfl))
theorem cm_undo_ok (l : Launch) (M : cm_S) {u : Nat} (hu : M.2.2.2.1 = nI (u + 1)) (h5 : u ≤ 5) : cw_M l mm_X3_undo 0 0 [.ref 0] (cm_h M) (some (.int (nI u))) (cm_h (cm_wst (cm_wrc M (nI u)) (cm_cp M.2.2.1 M.1 (u * 109) 0 109))) := by
  refine cw_enter cw_kX3_undo (by decide) (Nat.le_of_ble_eq_true rfl) ?_
  have e : nI u = M.2.2.2.1 - nI 1 := by rw [hu, pk_sub (by omega)]; rfl
  have n0 : ¬ M.2.2.2.1 = 0 := by rw [hu]; exact nI_ne0 (by omega) (by omega)
  have am := cm_moves l (na := 654) (nb := 109) (a := u * 109) (b := 0) (p := 3) (q := 1) (F := M.2.2.1) (G := M.1) (h := cm_h (cm_wrc M (nI u))) (by omega) (by omega) (Or.inr (Or.inl rfl)) (Or.inl rfl) rfl rfl (by decide)
  rw [← pk_mul] at am
  rw [e] at am ⊢
  exact cw_run cw_kX3_undo cw_z 21 [true] [] [(_, _)] (And.intro (n0) (And.intro (am) (And.intro (Nat.le_refl _) (cw_reti cw_kX3_undo cw_z rfl rfl))))
theorem cm_save_no (l : Launch) (M : cm_S) {x : Int32} (h : cb_wi x (nI 0) (nI 1) = false) : cw_M l mm_X3_save 0 0 [.ref 0, .int x] (cm_h M) (some (.int (-nI 2))) (cm_h M) := by
  refine cw_enter cw_kX3_save (by decide) (Nat.le_of_ble_eq_true rfl) ?_
  exact cw_run cw_kX3_save cw_z 6 [false] [] [(_, _)] (And.intro (cm_within l _ _ _ _) (And.intro (Nat.le_refl _) (And.intro ((fun q => q (cb_n0.mpr h))) (cw_reti cw_kX3_save cw_z rfl rfl))))
abbrev cm_wsl (M : cm_S) (sl sv : Nat → Int32) : cm_S := (M.1, M.2.1, M.2.2.1, M.2.2.2.1, sl, sv, M.2.2.2.2.2.2)
theorem cm_save_ok (l : Launch) (M : cm_S) {s : Nat} (h : cb_wi (nI s) (nI 0) (nI 1) = true) (hs : s < 2) : cw_M l mm_X3_save 0 0 [.ref 0, .int (nI s)] (cm_h M) (some (.int (cm_st M 3))) (cm_h (cm_wsl M (cm_cp M.1 M.2.2.2.2.1 0 (109 * s) 109) (upd M.2.2.2.2.2.1 s (nI 1)))) := by
  refine cw_enter cw_kX3_save (by decide) (Nat.le_of_ble_eq_true rfl) ?_
  have am := cm_moves l (na := 109) (nb := 218) (a := 0) (b := 109 * s) (p := 1) (q := 4) (F := M.1) (G := M.2.2.2.2.1) (h := cm_h M) (by omega) (by omega) (Or.inl rfl) (Or.inr (Or.inr rfl)) rfl rfl (by decide)
  rw [← pk_mul] at am
  exact cw_run cw_kX3_save cw_z 23 [true] [_, _] [(_, _), (_, _)] (And.intro (cm_within l _ _ _ _) (And.intro (Nat.le_refl _) (And.intro (cb_nt.mpr h) (And.intro (am) (And.intro (Nat.le_refl _) (And.intro (rfl) (And.intro (hs) (And.intro (rfl) (And.intro (Nat.le_of_ble_eq_true rfl) (cw_reti cw_kX3_save cw_z rfl rfl))))))))))
theorem cm_rest_no (l : Launch) (M : cm_S) {x : Int32} (h : cb_wi x (nI 0) (nI 1) = false) : cw_M l mm_X3_restore 0 0 [.ref 0, .int x] (cm_h M) (some (.int (-nI 2))) (cm_h M) := by
  refine cw_enter cw_kX3_restore (by decide) (Nat.le_of_ble_eq_true rfl) ?_
  exact cw_run cw_kX3_restore cw_z 6 [false] [] [(_, _)] (And.intro (cm_within l _ _ _ _) (And.intro (Nat.le_refl _) (And.intro ((fun q => q (cb_n0.mpr h))) (cw_reti cw_kX3_restore cw_z rfl rfl))))
theorem cm_rest_none (l : Launch) (M : cm_S) {s : Nat} (h : cb_wi (nI s) (nI 0) (nI 1) = true) (hs : s < 2) (h0 : M.2.2.2.2.2.1 s = 0) : cw_M l mm_X3_restore 0 0 [.ref 0, .int (nI s)] (cm_h M) (some (.int (-nI 5))) (cm_h M) := by
  refine cw_enter cw_kX3_restore (by decide) (Nat.le_of_ble_eq_true rfl) ?_
  exact cw_run cw_kX3_restore cw_z 11 [true, false] [_] [(_, _)] (And.intro (cm_within l _ _ _ _) (And.intro (Nat.le_refl _) (And.intro (cb_nt.mpr h) (And.intro (rfl) (And.intro (hs) (And.intro ((fun q => q h0)) (cw_reti cw_kX3_restore cw_z rfl rfl)))))))
theorem cm_rest_ok (l : Launch) (M : cm_S) {s u : Nat} (h : cb_wi (nI s) (nI 0) (nI 1) = true) (hs : s < 2) (h0 : ¬ M.2.2.2.2.2.1 s = 0) (hu : M.2.2.2.1 = nI u) (h6 : u ≤ 6) : cw_M l mm_X3_restore 0 0 [.ref 0, .int (nI s)] (cm_h M) (some (.int (cm_cp M.2.2.2.2.1 M.1 (109 * s) 0 109 3))) (cm_h (cm_wst (cm_rec M u) (cm_cp M.2.2.2.2.1 M.1 (109 * s) 0 109))) := by
  refine cw_enter cw_kX3_restore (by decide) (Nat.le_of_ble_eq_true rfl) ?_
  have am := cm_moves l (na := 218) (nb := 109) (a := 109 * s) (b := 0) (p := 4) (q := 1) (F := M.2.2.2.2.1) (G := M.1) (h := cm_h (cm_rec M u)) (by omega) (by omega) (Or.inr (Or.inr rfl)) (Or.inl rfl) rfl rfl (by decide)
  rw [← pk_mul] at am
  exact cw_run cw_kX3_restore cw_z 25 [true, true] [_, _] [(_, _), (_, _), (_, _)] (And.intro (cm_within l _ _ _ _) (And.intro (Nat.le_refl _) (And.intro (cb_nt.mpr h) (And.intro (rfl) (And.intro (hs) (And.intro (h0) (And.intro (cm_record l M hu h6) (And.intro (Nat.le_refl _) (And.intro (am) (And.intro (Nat.le_refl _) (And.intro (rfl) (And.intro (Nat.le_of_ble_eq_true rfl) (cw_reti cw_kX3_restore cw_z rfl rfl)))))))))))))
