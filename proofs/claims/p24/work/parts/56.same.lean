/-! p24: the law's rows and the class beside each other; all that is asked of the class -/
def px_h (q on ze le re tr : Nat → Int32) (C : cw_H) : cw_H := pl_h q on ze le re tr ++ C.map (cw_re (fun k => 6 + k))
section PX
variable {l : Launch} {q on ze le re tr q' on' ze' le' re' tr' : Nat → Int32} {C C' : cw_H} {i : cw_I} {av : List Value} {r : Option Value}
theorem px_cls (hM : cw_M l i 0 0 av C r C') (hl : C'.length = C.length) : cw_M l i 0 0 (av.map (cw_v (fun k => 6 + k))) (px_h q on ze le re tr C) (r.map (cw_v (fun k => 6 + k))) (px_h q on ze le re tr C') := by
  have := cw_lift hM hl (pl_h q on ze le re tr) [] (b := 6) rfl
  rw [List.append_nil, List.append_nil] at this
  exact this
theorem px_arr (hM : cw_M l i 0 0 av (pl_h q on ze le re tr) r (pl_h q' on' ze' le' re' tr')) : cw_M l i 0 0 (av.map (cw_v (fun k => 0 + k))) (px_h q on ze le re tr C) (r.map (cw_v (fun k => 0 + k))) (px_h q' on' ze' le' re' tr' C) :=
  cw_lift hM rfl [] (C.map (cw_re (fun k => 6 + k))) (b := 0) rfl
end PX
abbrev pl_N : cw_LV := [(0, .ref 6), (1, .ref 0), (2, .ref 1), (3, .ref 2), (4, .ref 3), (5, .ref 4), (6, .ref 5)]
/-- a thing's place by the law's row -/
def pl_pl (tr : Nat → Int32) (t : Int32) : Nat → Nat → Int32 → Int32
  | 0, _, a => a
  | n + 1, i, a => pl_pl tr t n (i + 1) (if tr i = t then nI i else a)
theorem pl_pl_no {tr : Nat → Int32} {t : Int32} : ∀ n i a, (∀ j, i ≤ j → j < i + n → tr j ≠ t) → pl_pl tr t n i a = a
  | 0, _, _, _ => rfl
  | n + 1, i, a, h => by
    unfold pl_pl
    rw [if_neg (h i (Nat.le_refl _) (by omega))]
    exact pl_pl_no n (i + 1) a (fun j h1 h2 => h j (by omega) (by omega))
theorem pl_pl_at {tr : Nat → Int32} {t : Int32} {p : Nat} (hp : tr p = t) : ∀ n i a, i ≤ p → p < i + n → (∀ j, i ≤ j → j < i + n → tr j = t → j = p) → pl_pl tr t n i a = nI p
  | 0, _, _, h1, h2, _ => absurd h2 (by omega)
  | n + 1, i, a, h1, h2, hu => by
    unfold pl_pl
    by_cases c : i = p
    · subst c
      rw [if_pos hp]
      exact pl_pl_no n (i + 1) _ (fun j h3 h4 z => absurd (hu j (by omega) (by omega) z) (by omega))
    · exact pl_pl_at hp n (i + 1) _ (by omega) (by omega) (fun j h3 h4 z => hu j (by omega) (by omega) z)
/-- the things of a clause, below a thing -/
def cb_tc (c : Int32) (t : Nat) : Nat := fb_ct (fun j => bt (c ||| cb_op c) (j + 1)) (t - 1)
theorem cb_tc_s (c : Int32) {t : Nat} (ht : 1 ≤ t) : cb_tc c (t + 1) = cb_tc c t + (if bt (c ||| cb_op c) t then 1 else 0) := by
  unfold cb_tc
  obtain ⟨m, rfl⟩ : ∃ m, t = m + 1 := ⟨t - 1, by omega⟩
  rw [show m + 1 + 1 - 1 = m + 1 by omega, show m + 1 - 1 = m by omega, fb_ct_succ]
theorem cb_sio_skip (c : Int32) {p : Nat} (hp : p ≤ 20) : ∀ n t, t = n + 1 → t ≤ 10 → cb_tc c t < p → cb_sio c (nI p) 9 1 (nI 0) = cb_sio c (nI p) (10 - t) t (nI (cb_tc c t))
  | 0, t, e, _, _ => by subst e; rfl
  | n + 1, t, e, h10, hc => by
    obtain rfl : t = (n + 1) + 1 := e
    have es := cb_tc_s c (t := n + 1) (by omega)
    have ih := cb_sio_skip c hp n (n + 1) rfl (by omega) (by
      split at es <;> omega)
    rw [ih, show 10 - (n + 1) = (10 - (n + 1 + 1)) + 1 by omega]
    conv => lhs; unfold cb_sio
    cases b : bt (c ||| cb_op c) (n + 1) with
    | true =>
      rw [b, if_pos rfl] at es
      rw [if_pos rfl, nI_add, if_neg (fun z => by have := (nI_eq (by omega) (by omega)).mp z; omega), es]
    | false =>
      rw [b, if_neg (by decide)] at es
      have es2 : cb_tc c (n + 1 + 1) = cb_tc c (n + 1) := es
      rw [if_neg (by decide), es2]
section PS
variable {l : Launch} {u : Int32} {S T : cs_S} {H G : Nat → Option Nat} {g : Nat → Int32} {pl : Int32} {L : List cs_S} {f q on ze le re tr : Nat → Int32} {h0 h1 : cw_H}
/-- the things -/
theorem ps_place (h : cr_I S) (hr : pr (cs_sp S) S q on ze le re tr) {C : cw_H} {is tt v : Int32} (K : cw_W l mm_L_same 0 0 h0 (some (.int (nI 1))) h1 0 0 77 ((10, .int (nI (cs_g S))) :: (9, .int v) :: (8, .int is) :: (7, .int tt) :: pl_N) [] (px_h q on ze le re tr C)) : ∀ n i a, i + n = cs_g S → pl_pl tr tt n i a = v → cw_W l mm_L_same 0 0 h0 (some (.int (nI 1))) h1 0 0 43 ((10, .int (nI i)) :: (9, .int a) :: (8, .int is) :: (7, .int tt) :: pl_N) [] (px_h q on ze le re tr C) := by
  have g9 := cr_g9 h
  have g7 := pr_g7 h hr
  intro n
  induction n with
  | zero =>
    intro i a hi e
    obtain rfl : i = cs_g S := by omega
    rw [← e] at K
    exact cw_run cw_kL_same cw_z 5 [true] [_] [] (And.intro (rfl) (And.intro (Nat.le_of_ble_eq_true rfl) (And.intro ((show q 7 ≤ nI (cs_g S) by rw [g7]; exact Int32.le_refl _)) (K))))
  | succ n ih =>
    intro i a hi e
    have i10 : i < 10 := by omega
    have m0 : ¬ q 7 ≤ nI i := by rw [g7]; exact nI_ge (by omega) (by omega)
    rw [show pl_pl tr tt (n + 1) i a = pl_pl tr tt n (i + 1) (if tr i = tt then nI i else a) from rfl] at e
    have ih1 := ih (i + 1) _ (by omega) e
    rw [← nI_add i 1] at ih1
    by_cases d : tr i = tt
    · rw [if_pos d] at ih1
      exact cw_run cw_kL_same cw_z 15 [false, false] [_, _] [] (And.intro (rfl) (And.intro (Nat.le_of_ble_eq_true rfl) (And.intro (m0) (And.intro (rfl) (And.intro (i10) (And.intro ((show ¬ ¬ tr i = tt from fun z => z d)) (ih1)))))))
    · rw [if_neg d] at ih1
      exact cw_run cw_kL_same cw_z 14 [false, true] [_, _] [] (And.intro (rfl) (And.intro (Nat.le_of_ble_eq_true rfl) (And.intro (m0) (And.intro (rfl) (And.intro (i10) (And.intro ((show ¬ tr i = tt from d)) (ih1)))))))
theorem ps_things (h : cr_I S) (hr : pr (cs_sp S) S q on ze le re tr) (K : cw_W l mm_L_same 0 0 h0 (some (.int (nI 1))) h1 0 0 176 pl_N [] (px_h q on ze le re tr (cc_h u S T H G g pl L))) : ∀ n t, t + n = cs_k S + 1 → 1 ≤ t → cw_W l mm_L_same 0 0 h0 (some (.int (nI 1))) h1 0 0 3 ((7, .int (nI t)) :: pl_N) [] (px_h q on ze le re tr (cc_h u S T H G g pl L)) := by
  have h9 := cr_k9 h
  have g9 := cr_g9 h
  have hB := h.1.1
  have q0 : q 0 = nI (cs_k S) := hr.1.1.trans h.1.1.2.2.2.1
  have eth := hB.2.2.2.1
  intro n
  induction n with
  | zero =>
    intro t ht h1
    exact cw_run cw_kL_same cw_z 5 [true] [_] [] (And.intro (rfl) (And.intro (Nat.le_of_ble_eq_true rfl) (And.intro ((show q 0 < nI t by rw [q0]; exact nI_lt (by omega) (by omega))) (cw_less [1, 2, 3, 4, 5, 6, 7] rfl K))))
  | succ n ih =>
    intro t ht h1
    have tk : t ≤ cs_k S := by omega
    have t10 : t < 10 := by omega
    have m0 : ¬ q 0 < nI t := by rw [q0]; exact nI_nlt (by omega) (by omega)
    have ih1 := ih (t + 1) (by omega) (by omega)
    rw [← nI_add t 1] at ih1
    have hxc : cb_wi (nI t) (nI 1) (cs_th S) = true := by rw [eth]; exact cb_nI_wi h1 tk (by omega)
    have ev := pr_val h hr h1 (show t ≤ 9 by omega)
    rcases cr_pof h (x := t) t10 (cs_g S) 0 (Nat.zero_add _) with ⟨a, b⟩ | ⟨p, -, hp, hpx, a⟩
    · have nb : bt (q 10 ||| q 11) t = false := by
        cases w : bt (q 10 ||| q 11) t with
        | false => rfl
        | true => obtain ⟨k, hk, e⟩ := ev.mp w; exact absurd e (b k (Nat.zero_le _) hk)
      have o := fun j (hj : j ≤ 3) => px_cls (q := q) (on := on) (ze := ze) (le := le) (re := re) (tr := tr) (cc_of_none (l := l) (u := u) (T := T) (H := H) (G := G) (f := g) (pl := pl) (L := L) hB hxc hj a) rfl
      have ep : pl_pl tr (nI t) (cs_g S) 0 (-nI 6) = -nI 6 := pl_pl_no _ _ _ (fun j _ hj z => by
        rw [(pr_x h hr j (by omega)).1] at z
        exact b j (Nat.zero_le _) (by omega) ((nI_eq (by omega) (by omega)).mp z))
      refine cw_run cw_kL_same cw_z 24 [false, true] [_, _, _] [] (And.intro (rfl) (And.intro (Nat.le_of_ble_eq_true rfl) (And.intro (m0) (And.intro (rfl) (And.intro (Nat.le_of_ble_eq_true rfl) (And.intro (rfl) (And.intro (Nat.le_of_ble_eq_true rfl) (And.intro ((show ¬ ((q 10 ||| q 11) >>> (nI t &&& 31)) &&& nI 1 = nI 1 by rw [pl_b1 (by omega), nb]; decide)) (ps_place h hr ?_ (cs_g S) 0 (-nI 6) (by omega) ep)))))))))
      exact cw_run cw_kL_same cw_z 32 [true, false, true, false, true, false, true] [] [(_, _), (_, _), (_, _), (_, _)] (And.intro (o 0 (by omega)) (And.intro (Nat.le_refl _) (And.intro ((show nI 0 = 0 from rfl)) (And.intro ((show ¬ ¬ -nI 6 = -nI 6 from fun z => z rfl)) (And.intro (o 1 (by omega)) (And.intro (Nat.le_refl _) (And.intro ((show nI 0 = 0 from rfl)) (And.intro ((show ¬ ¬ -nI 6 = -nI 6 from fun z => z rfl)) (And.intro (o 2 (by omega)) (And.intro (Nat.le_refl _) (And.intro ((show nI 0 = 0 from rfl)) (And.intro ((show ¬ ¬ -nI 6 = -nI 6 from fun z => z rfl)) (And.intro (o 3 (by omega)) (And.intro (Nat.le_refl _) (And.intro (rfl) (cw_less [0, 4, 5, 6, 7, 8, 9, 10] rfl ih1))))))))))))))))
    · have nb : bt (q 10 ||| q 11) t = true := ev.mpr ⟨p, hp, hpx⟩
      obtain ⟨t1, t2, t3⟩ := hr.2.2.2 p hp
      rw [hpx] at t1 t2 t3
      have hs := h.2.2.1.1 p hp
      have s9 := cr_sg9 h9 hs.2.1
      have o := fun j (hj : j ≤ 3) => px_cls (q := q) (on := on) (ze := ze) (le := le) (re := re) (tr := tr) (cc_of_ok (l := l) (u := u) (T := T) (H := H) (G := G) (f := g) (pl := pl) (L := L) hB hxc a (by omega) j hj) rfl
      have ep : pl_pl tr (nI t) (cs_g S) 0 (-nI 6) = nI p := pl_pl_at t1 _ _ _ (Nat.zero_le _) (by omega) (fun j _ hj z => by
        rw [(pr_x h hr j (by omega)).1] at z
        exact cr_uni h (by omega) hp (((nI_eq (by omega) (by omega)).mp z).trans hpx.symm))
      have e0 : cc_ofa S (nI t) p 0 = (q 10 >>> (nI t &&& 31)) &&& nI 1 := by
        rw [pl_b1 (by omega)]
        show (if cs_sg S p = nI t then nI 1 else nI 0) = _
        rw [hs.1]
        have eb := (hr.2.1 t (by omega)).1
        rw [h.2.2.1.2.2 t (by omega)] at eb
        by_cases c : cs_s S p = t
        · rw [if_pos (congrArg nI c), eb.mpr ⟨t10, p, hp, c⟩]; rfl
        · rw [if_neg (fun z => c ((nI_eq (by omega) (by omega)).mp z))]
          cases w : bt (q 10) t with
          | false => rfl
          | true =>
            obtain ⟨-, k, hk, e⟩ := eb.mp w
            have := cr_uni h hk hp (by omega)
            subst this
            exact absurd e c
      have o0 := o 0 (by omega)
      have o1 := o 1 (by omega)
      have o2 := o 2 (by omega)
      rw [e0] at o0
      rw [show cc_ofa S (nI t) p 1 = le t from t2.symm] at o1
      rw [show cc_ofa S (nI t) p 2 = re t from t3.symm] at o2
      refine cw_run cw_kL_same cw_z 25 [false, false] [_, _, _] [] (And.intro (rfl) (And.intro (Nat.le_of_ble_eq_true rfl) (And.intro (m0) (And.intro (rfl) (And.intro (Nat.le_of_ble_eq_true rfl) (And.intro (rfl) (And.intro (Nat.le_of_ble_eq_true rfl) (And.intro ((show ¬ ¬ ((q 10 ||| q 11) >>> (nI t &&& 31)) &&& nI 1 = nI 1 by rw [pl_b1 (by omega), nb]; exact fun z => z rfl)) (ps_place h hr ?_ (cs_g S) 0 (-nI 6) (by omega) ep)))))))))
      exact cw_run cw_kL_same cw_z 45 [false, false, false, false, false, false, true] [_, _, _] [(_, _), (_, _), (_, _), (_, _)] (And.intro (o0) (And.intro (Nat.le_refl _) (And.intro ((show ¬ nI 1 = 0 by decide)) (And.intro (rfl) (And.intro (Nat.le_of_ble_eq_true rfl) (And.intro ((fun z => z rfl)) (And.intro (o1) (And.intro (Nat.le_refl _) (And.intro ((show ¬ nI 1 = 0 by decide)) (And.intro (rfl) (And.intro (t10) (And.intro ((fun z => z rfl)) (And.intro (o2) (And.intro (Nat.le_refl _) (And.intro ((show ¬ nI 1 = 0 by decide)) (And.intro (rfl) (And.intro (t10) (And.intro ((fun z => z rfl)) (And.intro (o 3 (by omega)) (And.intro (Nat.le_refl _) (And.intro (rfl) (cw_less [0, 4, 5, 6, 7, 8, 9, 10] rfl ih1))))))))))))))))))))))
/-- the trail -/
theorem ps_trail (h : cr_I S) (hr : pr (cs_sp S) S q on ze le re tr) (K : cw_W l mm_L_same 0 0 h0 (some (.int (nI 1))) h1 0 0 210 pl_N [] (px_h q on ze le re tr (cc_h u S T H G g pl L))) : ∀ n i, i + n = cs_g S → cw_W l mm_L_same 0 0 h0 (some (.int (nI 1))) h1 0 0 179 ((7, .int (nI i)) :: pl_N) [] (px_h q on ze le re tr (cc_h u S T H G g pl L)) := by
  have h9 := cr_k9 h
  have g9 := cr_g9 h
  have g7 := pr_g7 h hr
  have eg := h.1.1.1.1
  intro n
  induction n with
  | zero =>
    intro i hi
    obtain rfl : i = cs_g S := by omega
    exact cw_run cw_kL_same cw_z 5 [true] [_] [] (And.intro (rfl) (And.intro (Nat.le_of_ble_eq_true rfl) (And.intro ((show q 7 ≤ nI (cs_g S) by rw [g7]; exact Int32.le_refl _)) (cw_less [1, 2, 3, 4, 5, 6, 7] rfl K))))
  | succ n ih =>
    intro i hi
    have hig : i < cs_g S := by omega
    have m0 : ¬ q 7 ≤ nI i := by rw [g7]; exact nI_ge (by omega) (by omega)
    have ih1 := ih (i + 1) (by omega)
    rw [← nI_add i 1] at ih1
    have hs := h.2.2.1.1 i hig
    have s9 := cr_sg9 h9 hs.2.1
    have hc := cc_trail_ok (l := l) (u := u) (N := S) (T := T) (H := H) (G := G) (f := g) (pl := pl) (L := L) (k := i) (by rw [eg]; exact decide_eq_true ⟨nI_pos (by omega), nI_lt hig (by omega)⟩) (by omega)
    rw [hs.1, show (if nI (cs_s S i) < nI 10 then nI (cs_s S i) else nI (cs_s S i) - nI 10) = nI (cs_s S i % 10) from cb_mod10 _ (by omega)] at hc
    have o := px_cls (q := q) (on := on) (ze := ze) (le := le) (re := re) (tr := tr) hc rfl
    exact cw_run cw_kL_same cw_z 14 [false, true] [_, _] [(_, _)] (And.intro (rfl) (And.intro (Nat.le_of_ble_eq_true rfl) (And.intro (m0) (And.intro (o) (And.intro (Nat.le_refl _) (And.intro (rfl) (And.intro ((show i < 10 by omega)) (And.intro ((show nI (cs_s S i % 10) = tr i from (pr_x h hr i hig).1.symm)) (ih1)))))))))
end PS
