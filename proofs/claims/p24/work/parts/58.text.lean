/-! p24: texts, character by character -/
/-- where reading stands behind j characters: last digit, behind a digit, behind a minus; the clause, to zero?, the greatest thing, the clauses told, how many are begun -/
def pt_S (f : Nat → Int32) (j L : Nat) (bd bm : Bool) (c : Int32) (z : Bool) (g : Nat) (tl : cs_S → cs_S) (m : Nat) : Prop :=
  ∀ f' : Nat → Int32, (∀ k, k < j → f' k = f k) → (∀ n, cp_ff f' (j + n) 0 (nI 0) false false = cp_ff f' n j (nI L) bd bm) ∧ (∀ n S, cp_tl f' (j + n) 0 (nI 0) false S = cp_tl f' n j c z (tl S)) ∧ (∀ n, cp_gt f' (j + n) 0 (nI 0) = cp_gt f' n j (nI g)) ∧ ∀ n, cp_hm f' (j + n) 0 1 = cp_hm f' n j m
theorem pt_0 (f : Nat → Int32) : pt_S f 0 0 false false (nI 0) false 0 (fun S => S) 1 := by
  intro f' _
  refine ⟨fun n => ?_, fun n S => ?_, fun n => ?_, fun n => ?_⟩ <;> rw [Nat.zero_add]
theorem pt_step {f : Nat → Int32} {j L L' g g' m m' : Nat} {bd bd' bm bm' z z' : Bool} {c c' v : Int32} {tl tl' : cs_S → cs_S} (h : pt_S f j L bd bm c z g tl m)
    (e1 : ∀ f' n, f' j = v → cp_ff f' (n + 1) j (nI L) bd bm = cp_ff f' n (j + 1) (nI L') bd' bm') (e2 : ∀ f' n S, f' j = v → cp_tl f' (n + 1) j c z (tl S) = cp_tl f' n (j + 1) c' z' (tl' S)) (e3 : ∀ f' n, f' j = v → cp_gt f' (n + 1) j (nI g) = cp_gt f' n (j + 1) (nI g')) (e4 : ∀ f' n, f' j = v → cp_hm f' (n + 1) j m = cp_hm f' n (j + 1) m') : pt_S (upd f j v) (j + 1) L' bd' bm' c' z' g' tl' m' := by
  intro f' hf
  have hj : f' j = v := (hf j (by omega)).trans (if_pos rfl)
  obtain ⟨a1, a2, a3, a4⟩ := h f' (fun k hk => (hf k (by omega)).trans (if_neg (by omega)))
  refine ⟨fun n => ?_, fun n S => ?_, fun n => ?_, fun n => ?_⟩
  · rw [show j + 1 + n = j + (n + 1) by omega, a1, e1 f' n hj]
  · rw [show j + 1 + n = j + (n + 1) by omega, a2, e2 f' n S hj]
  · rw [show j + 1 + n = j + (n + 1) by omega, a3, e3 f' n hj]
  · rw [show j + 1 + n = j + (n + 1) by omega, a4, e4 f' n hj]
theorem pt_dg : ∀ c, c < 127 → cp_dg (nI c) = decide (49 ≤ c ∧ c ≤ 57) := by decide +kernel
section PT
variable {f : Nat → Int32} {j L g m : Nat} {bm z : Bool} {c : Int32} {tl : cs_S → cs_S}
theorem pt_comma (h : pt_S f j L true bm c z g tl m) (hL : L < 9) : pt_S (upd f j (nI 44)) (j + 1) L false bm c false g tl m := by
  refine pt_step h (fun f' n e => ?_) (fun f' n S e => ?_) (fun f' n e => ?_) (fun f' n e => ?_)
  · conv => lhs; unfold cp_ff
    rw [e, if_neg (by decide), if_pos rfl, if_neg (fun w => by have := (nI_eq (by omega) (by omega)).mp w; omega)]
  · conv => lhs; unfold cp_tl
    rw [e, pt_dg 44 (by omega), if_neg (by decide), if_neg (by decide)]
    rfl
  · conv => lhs; unfold cp_gt
    rw [e, pt_dg 44 (by omega), if_neg (by decide)]
  · conv => lhs; unfold cp_hm
    rw [e, if_neg (by decide)]
theorem pt_minus (h : pt_S f j L false false c z g tl m) : pt_S (upd f j (nI 45)) (j + 1) L false true c true g tl m := by
  refine pt_step h (fun f' n e => ?_) (fun f' n S e => ?_) (fun f' n e => ?_) (fun f' n e => ?_)
  · conv => lhs; unfold cp_ff
    rw [e, if_pos ⟨rfl, rfl⟩]
  · conv => lhs; unfold cp_tl
    rw [e, pt_dg 45 (by omega), if_neg (by decide), if_neg (by decide)]
    rfl
  · conv => lhs; unfold cp_gt
    rw [e, pt_dg 45 (by omega), if_neg (by decide)]
  · conv => lhs; unfold cp_hm
    rw [e, if_neg (by decide)]
theorem pt_semi (h : pt_S f j L true bm c z g tl m) : pt_S (upd f j (nI 59)) (j + 1) 0 false bm (nI 0) false g (fun S => cs_tell (tl S) c) (m + 1) := by
  refine pt_step h (fun f' n e => ?_) (fun f' n S e => ?_) (fun f' n e => ?_) (fun f' n e => ?_)
  · conv => lhs; unfold cp_ff
    rw [e, if_pos rfl]
  · conv => lhs; unfold cp_tl
    rw [e, pt_dg 59 (by omega), if_neg (by decide), if_pos rfl]
    rfl
  · conv => lhs; unfold cp_gt
    rw [e, pt_dg 59 (by omega), if_neg (by decide)]
  · conv => lhs; unfold cp_hm
    rw [e, if_pos rfl]
theorem pt_digit (h : pt_S f j L false bm c z g tl m) {t : Nat} (h1 : 1 ≤ t) (ht : t ≤ 9) (hL : L < t) (hg : g ≤ 9) : pt_S (upd f j (nI (48 + t))) (j + 1) t true false (c ||| cb_set (nI (if z then t + 10 else t))) false (max g t) tl m := by
  have e48 : nI (48 + t) - nI 48 = nI t := by rw [pk_sub (by omega)]; congr 1; omega
  have n45 : ¬ nI (48 + t) = nI 45 := fun w => by have := (nI_eq (by omega) (by omega)).mp w; omega
  have dg : cp_dg (nI (48 + t)) = true := by rw [pt_dg _ (by omega)]; exact decide_eq_true ⟨by omega, by omega⟩
  refine pt_step h (fun f' n e => ?_) (fun f' n S e => ?_) (fun f' n e => ?_) (fun f' n e => ?_)
  · conv => lhs; unfold cp_ff
    rw [e, e48, if_neg (fun w => n45 w.1), if_neg (nI_ge hL (by omega)), if_pos (nI_le ht (by omega))]
  · conv => lhs; unfold cp_tl
    rw [e, if_pos dg, e48, decide_eq_false n45]
    cases z with
    | true => rw [if_pos rfl, if_pos rfl, cb_opp_nI (by omega)]; unfold cr_op; rw [if_pos (by omega)]
    | false => rw [if_neg (by decide), if_neg (by decide)]
  · conv => lhs; unfold cp_gt
    rw [e, if_pos dg, e48]
    by_cases w : g < t
    · rw [if_pos (nI_lt w (by omega)), Nat.max_eq_right (by omega)]
    · rw [if_neg (nI_nlt (by omega) (by omega)), Nat.max_eq_left (by omega)]
  · conv => lhs; unfold cp_hm
    rw [e, if_neg (fun w => by have := (nI_eq (by omega) (by omega)).mp w; omega)]
/-- a whole text -/
theorem pt_end (h : pt_S f j L true bm c z g tl m) : cp_ff f j 0 (nI 0) false false = -nI 6 ∧ (∀ S, cp_tl f j 0 (nI 0) false S = cs_tell (tl S) c) ∧ cp_gt f j 0 (nI 0) = nI g ∧ cp_hm f j 0 1 = m := by
  obtain ⟨a1, a2, a3, a4⟩ := h f (fun _ _ => rfl)
  have b1 := a1 0
  have b2 := a2 0
  have b3 := a3 0
  have b4 := a4 0
  rw [Nat.add_zero] at b1 b2 b3 b4
  exact ⟨b1, b2, b3, b4⟩
end PT
/-- one character put -/
theorem pt_ch : ∀ c, c < 127 → 33 ≤ c → cp_ci (lN c) 8 0 = nI 1 ∧ cp_ch (lN c) 0 = nI c := by decide +kernel
section PTP
variable {l : Launch} {u : Int32} {N T : cs_S} {H G : Nat → Option Nat} {f : Nat → Int32} {L : List cs_S} {q on ze le re tr : Nat → Int32}
theorem px_put {ch n : Nat} (h1 : 33 ≤ ch) (h2 : ch < 127) (hn : n < 60) : cw_M l mm_X2_put 0 0 [.ref 6, .long (lN ch)] (px_h q on ze le re tr (cc_h u N T H G f (nI n) L)) (some (.int (nI (n + 1)))) (px_h q on ze le re tr (cc_h u N T H G (upd f n (nI ch)) (nI (n + 1)) L)) := by
  obtain ⟨a, b⟩ := pt_ch ch h2 h1
  have o := cc_put_ok (l := l) (u := u) (N := N) (T := T) (H := H) (G := G) (f := f) (L := L) (x := lN ch) (n := n) (m := 1) a (by omega) (by omega)
  have e : cp_ap (lN ch) 1 n f = upd f n (nI ch) := by
    show upd f n (cp_ch (lN ch) 0) = _
    rw [b]
  rw [e] at o
  exact px_cls o rfl
theorem px_wipe {pl : Int32} : cw_M l mm_X2_wipe 0 0 [.ref 6] (px_h q on ze le re tr (cc_h u N T H G f pl L)) (some (.int pl)) (px_h q on ze le re tr (cc_h u N T H G f (nI 0) L)) := px_cls cc_wipe rfl
end PTP
