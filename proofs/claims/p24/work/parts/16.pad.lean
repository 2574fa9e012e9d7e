/-! the pad -/
/-- a number that a char can be; a method that answers one -/
def cp_c1 (v : Int32) : Prop := v.toUInt32.toUInt16.toUInt32.toInt32 = v
theorem cw_retc {l : Launch} {ii : cw_I} {mc ms : Nat} {h0 : cw_H} {h1 : cw_H} {v : Int32} {kc ks pc : Nat} {lv : cw_LV} (hi : cw_okD ii) (hk : kc ≤ mc ∧ ks ≤ ms) (hd : cw_look (cw_tb ii) pc = some (.ireturn, 1)) (hr : cw_r ii = some .char) (hv : cp_c1 v) : cw_W l ii mc ms h0 (some (.int v)) h1 kc ks pc lv [.int v] h1 := by
  intro p e R s m args below meth c D cA ad0 hX hR1 hR2
  intro ad H locs ls hkp hP hD hS hl
  obtain ⟨hx, hb, hml, hown, hts, hKs, hfr, hlo, hnm, hret, hlocks⟩ := hX
  have hdg := hi.1 _ (cw_look_mem hd)
  refine W.widen hk.1 hk.2 ?_
  exact W.zret hx hb (hret.trans hr) (congrArg Value.int hv) (fun t ht hW => ⟨⟨ad, hkp, rfl, by rw [ht]; exact hP, hD⟩, hS.F ht⟩) hS.2.2 hdg hlocks
def cp_h (f : Nat → Int32) (len : Int32) : cw_H := [.inr (0, [.ref 1, .int len]), .inl (1, 60, .inl f)]
/-- a character of the pad -/
theorem cp_characterAt (l : Launch) (f : Nat → Int32) {N x : Int32} {k : Nat} (e : x = nI k) (hk : k < 60) (hc : cp_c1 (f k)) : cw_M l mm_X0_characterAt 0 0 [.ref 0, .int x] (cp_h f N) (some (.int (f k))) (cp_h f N) := by
  subst e
  refine cw_enter cw_KX0_characterAt (by decide) (Nat.le_of_ble_eq_true rfl) ?_
  exact cw_run cw_kX0_characterAt cw_z 10 [false, false] [_] [] (And.intro (nI_pos (by omega)) (And.intro ((show ¬ nI 60 ≤ nI k from nI_ge hk (by omega))) (And.intro (rfl) (And.intro (hk) (cw_retc cw_kX0_characterAt cw_z rfl rfl hc)))))
theorem cp_empty (l : Launch) (f : Nat → Int32) (len : Int32) : cw_M l mm_X0_empty 0 0 [.ref 0] (cp_h f len) none (cp_h f (nI 0)) := by
  refine cw_enter cw_KX0_empty (by decide) (Nat.le_of_ble_eq_true rfl) ?_
  exact cw_run cw_kX0_empty cw_z 3 [] [] [] (cw_retv cw_kX0_empty cw_z rfl rfl)
/-- what is left of a number without its last m characters; the character there -/
def cp_sh (x : Int64) (m : Nat) : Int64 := (x.toUInt64 >>> ((nI 8 * nI m).toInt64.toUInt64 &&& Int64.toUInt64 63)).toInt64
def cp_cd (x : Int64) (m : Nat) : Int32 := (cp_sh x m &&& 255).toInt32
theorem cp_codeIn (l : Launch) (h : cw_H) (x : Int64) (m : Nat) : cw_M l mm_X0_codeIn 0 0 [.long x, .int (nI m)] h (some (.int (cp_cd x m))) h := by
  refine cw_enter cw_KX0_codeIn (by decide) (Nat.le_of_ble_eq_true rfl) ?_
  exact cw_run cw_kX0_codeIn cw_z 8 [] [] [] (cw_reti cw_kX0_codeIn cw_z rfl rfl)
def cp_ci (x : Int64) : Nat → Nat → Int32
  | 0, m => nI m
  | n + 1, m => if lg_cmp (cp_sh x m) (Int64.ofNat 0) = 0 then nI m else if cp_cd x m < nI 33 then nI 0 else if cp_cd x m ≤ nI 126 then cp_ci x n (m + 1) else nI 0
theorem cp_ci_loop (l : Launch) (h : cw_H) (x : Int64) : ∀ n m, m + n = 8 → cw_W l mm_X0_charactersIn 0 0 h (some (.int (cp_ci x n m))) h 0 0 2 [(2, .int (nI m)), (0, .long x)] [] h := by
  intro n
  induction n with
  | zero =>
    intro m hm
    obtain rfl : m = 8 := by omega
    exact cw_run cw_kX0_charactersIn cw_z 4 [true] [] [] (And.intro ((show nI 8 ≤ nI 8 from Int32.le_refl _)) (cw_reti cw_kX0_charactersIn cw_z rfl rfl))
  | succ n ih =>
    intro m hm
    have h0 : ¬ nI 8 ≤ nI m := nI_ge (by omega) (by omega)
    by_cases c : lg_cmp (cp_sh x m) (Int64.ofNat 0) = 0
    · rw [show cp_ci x (n + 1) m = nI m by rw [cp_ci, if_pos c]]
      exact cw_run cw_kX0_charactersIn cw_z 12 [false, true] [] [] (And.intro (h0) (And.intro (c) (cw_reti cw_kX0_charactersIn cw_z rfl rfl)))
    · by_cases d : cp_cd x m < nI 33
      · rw [show cp_ci x (n + 1) m = nI 0 by rw [cp_ci, if_neg c, if_pos d]]
        exact cw_run cw_kX0_charactersIn cw_z 19 [false, false, true] [] [(_, _)] (And.intro (h0) (And.intro (c) (And.intro (cp_codeIn l _ _ _) (And.intro (Nat.le_refl _) (And.intro (d) (cw_reti cw_kX0_charactersIn cw_z rfl rfl))))))
      · by_cases f : cp_cd x m ≤ nI 126
        · rw [show cp_ci x (n + 1) m = cp_ci x n (m + 1) by rw [cp_ci, if_neg c, if_neg d, if_pos f]]
          have ih1 := ih (m + 1) (by omega)
          rw [← nI_add m 1] at ih1
          exact cw_run cw_kX0_charactersIn cw_z 23 [false, false, false, true] [] [(_, _)] (And.intro (h0) (And.intro (c) (And.intro (cp_codeIn l _ _ _) (And.intro (Nat.le_refl _) (And.intro (d) (And.intro (f) (cw_less [0, 2] rfl ih1)))))))
        · rw [show cp_ci x (n + 1) m = nI 0 by rw [cp_ci, if_neg c, if_neg d, if_neg f]]
          exact cw_run cw_kX0_charactersIn cw_z 22 [false, false, false, false] [] [(_, _)] (And.intro (h0) (And.intro (c) (And.intro (cp_codeIn l _ _ _) (And.intro (Nat.le_refl _) (And.intro (d) (And.intro (f) (cw_reti cw_kX0_charactersIn cw_z rfl rfl)))))))
theorem cp_charactersIn (l : Launch) (h : cw_H) (x : Int64) : cw_M l mm_X0_charactersIn 0 0 [.long x] h (some (.int (cp_ci x 8 0))) h := by
  refine cw_enter cw_KX0_charactersIn (by decide) (Nat.le_of_ble_eq_true rfl) ?_
  exact cw_run cw_kX0_charactersIn cw_z 2 [] [] [] (cp_ci_loop l h x 8 0 (by omega))
def cp_ch (x : Int64) (m : Nat) : Int32 := vp_nar .char ((cp_cd x m).toUInt32 % 65536).toInt32
def cp_ap (x : Int64) : Nat → Nat → (Nat → Int32) → Nat → Int32
  | 0, _, f => f
  | m + 1, n, f => cp_ap x m (n + 1) (upd f n (cp_ch x m))
theorem cp_ap_loop (l : Launch) (f0 : Nat → Int32) (len0 : Int32) (x : Int64) (y : Int32) : ∀ m n f, n + m ≤ 60 → cw_W l mm_X0_append 0 0 (cp_h f0 len0) none (cp_h (cp_ap x m n f) (nI (n + m))) 0 0 5 [(4, .int (nI m - nI 1)), (0, .ref 0), (1, .long x), (3, .int y)] [] (cp_h f (nI n)) := by
  intro m
  induction m with
  | zero =>
    intro n f hm
    exact cw_run cw_kX0_append cw_z 2 [true] [] [] (And.intro ((show nI 0 - nI 1 < 0 by decide)) (cw_retv cw_kX0_append cw_z rfl rfl))
  | succ m ih =>
    intro n f hm
    have e0 : nI (m + 1) - nI 1 = nI m := by rw [pk_sub (by omega)]; rfl
    rw [e0, show n + (m + 1) = (n + 1) + m by omega]
    have ih1 := ih (n + 1) (upd f n (cp_ch x m)) (by omega)
    have e1 : cp_h (upd f n (cp_ch x m)) (nI (n + 1)) = cp_h (upd f n (cp_ch x m)) (nI n + nI 1) := by rw [nI_add]
    rw [← cb_m, e1] at ih1
    exact cw_run cw_kX0_append cw_z 26 [false, false, false] [_] [(_, _)] (And.intro (nI_pos (by omega)) (And.intro ((show ¬ nI n < 0 from nI_pos (by omega))) (And.intro ((show ¬ nI 60 ≤ nI n from nI_ge (by omega) (by omega))) (And.intro (cp_codeIn l _ _ _) (And.intro (Nat.le_refl _) (And.intro (rfl) (And.intro ((show n < 60 by omega)) (ih1))))))))
theorem cp_append (l : Launch) (f : Nat → Int32) (x : Int64) {m n : Nat} (h : n + m ≤ 60) : cw_M l mm_X0_append 0 0 [.ref 0, .long x, .int (nI m)] (cp_h f (nI n)) none (cp_h (cp_ap x m n f) (nI (n + m))) := by
  refine cw_enter cw_KX0_append (by decide) (Nat.le_of_ble_eq_true rfl) ?_
  exact cw_run cw_kX0_append cw_z 4 [] [] [] (cp_ap_loop l f (nI n) x (nI m) m n f h)
def cp_dg (c : Int32) : Bool := decide (¬ c < nI 49 ∧ ¬ nI 57 < c)
theorem cp_isDigit (l : Launch) (h : cw_H) (c : Int32) : cw_M l mm_X0_isDigit 0 0 [.int c] h (some (.int (cb_n (cp_dg c)))) h := by
  refine cw_enter cw_KX0_isDigit (by decide) (Nat.le_of_ble_eq_true rfl) ?_
  by_cases a : c < nI 49
  · rw [show cp_dg c = false by simp [cp_dg, a]]
    exact cw_run cw_kX0_isDigit cw_z 4 [true] [] [] (And.intro (a) (cw_retz cw_kX0_isDigit cw_z rfl rfl (Or.inl rfl)))
  · by_cases b : nI 57 < c
    · rw [show cp_dg c = false by simp [cp_dg, b]]
      exact cw_run cw_kX0_isDigit cw_z 7 [false, true] [] [] (And.intro (a) (And.intro (b) (cw_retz cw_kX0_isDigit cw_z rfl rfl (Or.inl rfl))))
    · rw [show cp_dg c = true by simp [cp_dg, a, b]]
      exact cw_run cw_kX0_isDigit cw_z 8 [false, false] [] [] (And.intro (a) (And.intro (b) (cw_retz cw_kX0_isDigit cw_z rfl rfl (Or.inr rfl))))
/-- the greatest thing; how many clauses -/
def cp_gt (f : Nat → Int32) : Nat → Nat → Int32 → Int32
  | 0, _, g => g
  | n + 1, i, g => cp_gt f n (i + 1) (if cp_dg (f i) then (if g < f i - nI 48 then f i - nI 48 else g) else g)
theorem cp_gt_loop (l : Launch) (f : Nat → Int32) {N : Nat} (hN : N ≤ 60) (hc : ∀ k, k < N → cp_c1 (f k)) : ∀ n i g, i + n = N → cw_W l mm_X0_greatestThing 0 0 (cp_h f (nI N)) (some (.int (cp_gt f n i g))) (cp_h f (nI N)) 0 0 4 [(2, .int (nI i)), (1, .int g), (0, .ref 0)] [] (cp_h f (nI N)) := by
  intro n
  induction n with
  | zero =>
    intro i g hi
    exact cw_run cw_kX0_greatestThing cw_z 5 [true] [] [] (And.intro ((show nI N ≤ nI i from nI_le (by omega) (by omega))) (cw_reti cw_kX0_greatestThing cw_z rfl rfl))
  | succ n ih =>
    intro i g hi
    have h0 : ¬ nI N ≤ nI i := nI_ge (by omega) (by omega)
    have h6 : i < 60 := by omega
    cases b : cp_dg (f i) with
    | true =>
      rw [show cp_gt f (n + 1) i g = cp_gt f n (i + 1) (if g < f i - nI 48 then f i - nI 48 else g) by rw [cp_gt, if_pos b]]
      have ih1 := ih (i + 1) (if g < f i - nI 48 then f i - nI 48 else g) (by omega)
      rw [← nI_add i 1] at ih1
      exact cw_run cw_kX0_greatestThing cw_z 19 [false, false] [] [(_, _), (_, _), (_, _)] (And.intro (h0) (And.intro (cp_characterAt l f rfl h6 (hc i (by omega))) (And.intro (Nat.le_refl _) (And.intro (cp_isDigit l _ _) (And.intro (Nat.le_refl _) (And.intro (cb_nt.mpr b) (And.intro (cp_characterAt l f rfl h6 (hc i (by omega))) (And.intro (Nat.le_refl _) (ih1)))))))))
    | false =>
      rw [show cp_gt f (n + 1) i g = cp_gt f n (i + 1) g by rw [cp_gt, if_neg (by rw [b]; decide)]]
      have ih1 := ih (i + 1) g (by omega)
      rw [← nI_add i 1] at ih1
      exact cw_run cw_kX0_greatestThing cw_z 11 [false, true] [] [(_, _), (_, _)] (And.intro (h0) (And.intro (cp_characterAt l f rfl h6 (hc i (by omega))) (And.intro (Nat.le_refl _) (And.intro (cp_isDigit l _ _) (And.intro (Nat.le_refl _) (And.intro (cb_n0.mpr b) (ih1)))))))
theorem cp_greatestThing (l : Launch) (f : Nat → Int32) {N : Nat} (hN : N ≤ 60) (hc : ∀ k, k < N → cp_c1 (f k)) : cw_M l mm_X0_greatestThing 0 0 [.ref 0] (cp_h f (nI N)) (some (.int (cp_gt f N 0 (nI 0)))) (cp_h f (nI N)) := by
  refine cw_enter cw_KX0_greatestThing (by decide) (Nat.le_of_ble_eq_true rfl) ?_
  exact cw_run cw_kX0_greatestThing cw_z 4 [] [] [] (cp_gt_loop l f hN hc N 0 _ (by omega))
def cp_hm (f : Nat → Int32) : Nat → Nat → Nat → Nat
  | 0, _, c => c
  | n + 1, i, c => cp_hm f n (i + 1) (if f i = nI 59 then c + 1 else c)
theorem cp_hm_loop (l : Launch) (f : Nat → Int32) {N : Nat} (hN : N ≤ 60) (hc : ∀ k, k < N → cp_c1 (f k)) : ∀ n i c, i + n = N → cw_W l mm_X0_howManyClauses 0 0 (cp_h f (nI N)) (some (.int (nI (cp_hm f n i c)))) (cp_h f (nI N)) 0 0 4 [(2, .int (nI i)), (1, .int (nI c)), (0, .ref 0)] [] (cp_h f (nI N)) := by
  intro n
  induction n with
  | zero =>
    intro i c hi
    exact cw_run cw_kX0_howManyClauses cw_z 5 [true] [] [] (And.intro ((show nI N ≤ nI i from nI_le (by omega) (by omega))) (cw_reti cw_kX0_howManyClauses cw_z rfl rfl))
  | succ n ih =>
    intro i c hi
    have h0 : ¬ nI N ≤ nI i := nI_ge (by omega) (by omega)
    have h6 : i < 60 := by omega
    by_cases b : f i = nI 59
    · rw [show cp_hm f (n + 1) i c = cp_hm f n (i + 1) (c + 1) by rw [cp_hm, if_pos b]]
      have ih1 := ih (i + 1) (c + 1) (by omega)
      rw [← nI_add i 1, ← nI_add c 1] at ih1
      exact cw_run cw_kX0_howManyClauses cw_z 12 [false, false] [] [(_, _)] (And.intro (h0) (And.intro (cp_characterAt l f rfl h6 (hc i (by omega))) (And.intro (Nat.le_refl _) (And.intro ((fun q => q b)) (ih1)))))
    · rw [show cp_hm f (n + 1) i c = cp_hm f n (i + 1) c by rw [cp_hm, if_neg b]]
      have ih1 := ih (i + 1) c (by omega)
      rw [← nI_add i 1] at ih1
      exact cw_run cw_kX0_howManyClauses cw_z 11 [false, true] [] [(_, _)] (And.intro (h0) (And.intro (cp_characterAt l f rfl h6 (hc i (by omega))) (And.intro (Nat.le_refl _) (And.intro (b) (ih1)))))
theorem cp_howMany (l : Launch) (f : Nat → Int32) {N : Nat} (hN : N ≤ 60) (hc : ∀ k, k < N → cp_c1 (f k)) : cw_M l mm_X0_howManyClauses 0 0 [.ref 0] (cp_h f (nI N)) (some (.int (nI (cp_hm f N 0 1)))) (cp_h f (nI N)) := by
  refine cw_enter cw_KX0_howManyClauses (by decide) (Nat.le_of_ble_eq_true rfl) ?_
  exact cw_run cw_kX0_howManyClauses cw_z 4 [] [] [] (cp_hm_loop l f hN hc N 0 1 (by omega))
/-- the fault: from character i on, n more; the last digit, behind a digit?, behind a minus? -/
def cp_ff (f : Nat → Int32) : Nat → Nat → Int32 → Bool → Bool → Int32
  | 0, i, _, bd, _ => if bd then -nI 6 else nI i
  | n + 1, i, L, true, bm => if f i = nI 59 then cp_ff f n (i + 1) (nI 0) false bm else if f i = nI 44 then (if L = nI 9 then nI i else cp_ff f n (i + 1) L false bm) else nI i
  | n + 1, i, L, false, bm => if f i = nI 45 ∧ bm = false then cp_ff f n (i + 1) L false true else if f i - nI 48 ≤ L then nI i else if f i - nI 48 ≤ nI 9 then cp_ff f n (i + 1) (f i - nI 48) true false else nI i
theorem cp_ff_loop (l : Launch) (f : Nat → Int32) {N : Nat} (hN : N ≤ 60) (hc : ∀ k, k < N → cp_c1 (f k)) : ∀ n i L bd bm, i + n = N → cw_W l mm_X0_firstFault 0 0 (cp_h f (nI N)) (some (.int (cp_ff f n i L bd bm))) (cp_h f (nI N)) 0 0 9 [(4, .int (nI i)), (3, .int (cb_n bm)), (2, .int (cb_n bd)), (1, .int L), (0, .ref 0)] [] (cp_h f (nI N)) := by
  intro n
  induction n with
  | zero =>
    intro i L bd bm hi
    obtain rfl : i = N := by omega
    have h0 : nI i ≤ nI i := Int32.le_refl _
    cases bd with
    | true => exact cw_run cw_kX0_firstFault cw_z 8 [true, false] [] [] (And.intro (h0) (And.intro (cb_nt.mpr rfl) (cw_reti cw_kX0_firstFault cw_z rfl rfl)))
    | false => exact cw_run cw_kX0_firstFault cw_z 8 [true, true] [] [] (And.intro (h0) (And.intro (cb_n0.mpr rfl) (cw_reti cw_kX0_firstFault cw_z rfl rfl)))
  | succ n ih =>
    intro i L bd bm hi
    have h0 : ¬ nI N ≤ nI i := nI_ge (by omega) (by omega)
    have h6 : i < 60 := by omega
    cases bd with
    | true =>
      have c1 : ¬ cb_n true = 0 := cb_nt.mpr rfl
      by_cases a : f i = nI 59
      · rw [show cp_ff f (n + 1) i L true bm = cp_ff f n (i + 1) (nI 0) false bm by rw [cp_ff, if_pos a]]
        have ih1 := ih (i + 1) (nI 0) false bm (by omega)
        rw [← nI_add i 1] at ih1
        exact cw_run cw_kX0_firstFault cw_z 24 [false, false, true, false] [] [(_, _)] (And.intro (h0) (And.intro (cp_characterAt l f rfl h6 (hc i (by omega))) (And.intro (Nat.le_refl _) (And.intro (c1) (And.intro (a) (And.intro ((fun q => q a)) (cw_less [0, 4, 1, 2, 5] rfl ih1)))))))
      · by_cases b : f i = nI 44
        · by_cases d : L = nI 9
          · rw [show cp_ff f (n + 1) i L true bm = nI i by rw [cp_ff, if_neg a, if_pos b, if_pos d]]
            exact cw_run cw_kX0_firstFault cw_z 20 [false, false, false, false, false] [] [(_, _)] (And.intro (h0) (And.intro (cp_characterAt l f rfl h6 (hc i (by omega))) (And.intro (Nat.le_refl _) (And.intro (c1) (And.intro (a) (And.intro ((fun q => q b)) (And.intro ((fun q => q d)) (cw_reti cw_kX0_firstFault cw_z rfl rfl))))))))
          · rw [show cp_ff f (n + 1) i L true bm = cp_ff f n (i + 1) L false bm by rw [cp_ff, if_neg a, if_pos b, if_neg d]]
            have ih1 := ih (i + 1) L false bm (by omega)
            rw [← nI_add i 1] at ih1
            exact cw_run cw_kX0_firstFault cw_z 29 [false, false, false, false, true, true] [] [(_, _)] (And.intro (h0) (And.intro (cp_characterAt l f rfl h6 (hc i (by omega))) (And.intro (Nat.le_refl _) (And.intro (c1) (And.intro (a) (And.intro ((fun q => q b)) (And.intro (d) (And.intro (a) (cw_less [0, 4, 1, 2, 5] rfl ih1)))))))))
        · rw [show cp_ff f (n + 1) i L true bm = nI i by rw [cp_ff, if_neg a, if_neg b]]
          exact cw_run cw_kX0_firstFault cw_z 17 [false, false, false, true] [] [(_, _)] (And.intro (h0) (And.intro (cp_characterAt l f rfl h6 (hc i (by omega))) (And.intro (Nat.le_refl _) (And.intro (c1) (And.intro (a) (And.intro (b) (cw_reti cw_kX0_firstFault cw_z rfl rfl)))))))
    | false =>
      have c1 : cb_n false = 0 := cb_n0.mpr rfl
      by_cases a : f i = nI 45 ∧ bm = false
      · rw [show cp_ff f (n + 1) i L false bm = cp_ff f n (i + 1) L false true by rw [cp_ff, if_pos a]]
        have ih1 := ih (i + 1) L false true (by omega)
        rw [← nI_add i 1] at ih1
        exact cw_run cw_kX0_firstFault cw_z 20 [false, true, false, false] [] [(_, _)] (And.intro (h0) (And.intro (cp_characterAt l f rfl h6 (hc i (by omega))) (And.intro (Nat.le_refl _) (And.intro (c1) (And.intro ((fun q => q a.1)) (And.intro ((fun q => q (cb_n0.mpr a.2))) (cw_less [0, 1, 3, 4, 5] rfl ih1)))))))
      · by_cases b : f i - nI 48 ≤ L
        · rw [show cp_ff f (n + 1) i L false bm = nI i by rw [cp_ff, if_neg a, if_pos b]]
          by_cases a1 : f i = nI 45
          · have a2 : ¬ cb_n bm = 0 := fun q => a ⟨a1, cb_n0.mp q⟩
            exact cw_run cw_kX0_firstFault cw_z 23 [false, true, false, true, true] [] [(_, _)] (And.intro (h0) (And.intro (cp_characterAt l f rfl h6 (hc i (by omega))) (And.intro (Nat.le_refl _) (And.intro (c1) (And.intro ((fun q => q a1)) (And.intro (a2) (And.intro (b) (cw_reti cw_kX0_firstFault cw_z rfl rfl))))))))
          · exact cw_run cw_kX0_firstFault cw_z 21 [false, true, true, true] [] [(_, _)] (And.intro (h0) (And.intro (cp_characterAt l f rfl h6 (hc i (by omega))) (And.intro (Nat.le_refl _) (And.intro (c1) (And.intro (a1) (And.intro (b) (cw_reti cw_kX0_firstFault cw_z rfl rfl)))))))
        · by_cases d : f i - nI 48 ≤ nI 9
          · rw [show cp_ff f (n + 1) i L false bm = cp_ff f n (i + 1) (f i - nI 48) true false by rw [cp_ff, if_neg a, if_neg b, if_pos d]]
            have ih1 := ih (i + 1) (f i - nI 48) true false (by omega)
            rw [← nI_add i 1] at ih1
            by_cases a1 : f i = nI 45
            · have a2 : ¬ cb_n bm = 0 := fun q => a ⟨a1, cb_n0.mp q⟩
              exact cw_run cw_kX0_firstFault cw_z 33 [false, true, false, true, false, true] [] [(_, _)] (And.intro (h0) (And.intro (cp_characterAt l f rfl h6 (hc i (by omega))) (And.intro (Nat.le_refl _) (And.intro (c1) (And.intro ((fun q => q a1)) (And.intro (a2) (And.intro (b) (And.intro (d) (cw_less [0, 1, 2, 3, 6] rfl ih1)))))))))
            · exact cw_run cw_kX0_firstFault cw_z 31 [false, true, true, false, true] [] [(_, _)] (And.intro (h0) (And.intro (cp_characterAt l f rfl h6 (hc i (by omega))) (And.intro (Nat.le_refl _) (And.intro (c1) (And.intro (a1) (And.intro (b) (And.intro (d) (cw_less [0, 1, 2, 3, 6] rfl ih1))))))))
          · rw [show cp_ff f (n + 1) i L false bm = nI i by rw [cp_ff, if_neg a, if_neg b, if_neg d]]
            by_cases a1 : f i = nI 45
            · have a2 : ¬ cb_n bm = 0 := fun q => a ⟨a1, cb_n0.mp q⟩
              exact cw_run cw_kX0_firstFault cw_z 26 [false, true, false, true, false, false] [] [(_, _)] (And.intro (h0) (And.intro (cp_characterAt l f rfl h6 (hc i (by omega))) (And.intro (Nat.le_refl _) (And.intro (c1) (And.intro ((fun q => q a1)) (And.intro (a2) (And.intro (b) (And.intro (d) (cw_reti cw_kX0_firstFault cw_z rfl rfl)))))))))
            · exact cw_run cw_kX0_firstFault cw_z 24 [false, true, true, false, false] [] [(_, _)] (And.intro (h0) (And.intro (cp_characterAt l f rfl h6 (hc i (by omega))) (And.intro (Nat.le_refl _) (And.intro (c1) (And.intro (a1) (And.intro (b) (And.intro (d) (cw_reti cw_kX0_firstFault cw_z rfl rfl))))))))
theorem cp_firstFault (l : Launch) (f : Nat → Int32) {N : Nat} (hN : N ≤ 60) (hc : ∀ k, k < N → cp_c1 (f k)) : cw_M l mm_X0_firstFault 0 0 [.ref 0] (cp_h f (nI N)) (some (.int (cp_ff f N 0 (nI 0) false false))) (cp_h f (nI N)) := by
  refine cw_enter cw_KX0_firstFault (by decide) (Nat.le_of_ble_eq_true rfl) ?_
  exact cw_run cw_kX0_firstFault cw_z 8 [] [] [] (cp_ff_loop l f hN hc N 0 (nI 0) false false (by omega))

