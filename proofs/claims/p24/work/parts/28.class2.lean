/-! the class: steps with places that are not written out; what it records; its constructor -/
theorem cw_aald {l : Launch} {ii : cw_I} {mc ms : Nat} {h0 : cw_H} {r : Option Value} {h1 : cw_H} {kc ks pc a sz j q : Nat} {x : Int32} {lv : cw_LV} {st : List Value} {h : cw_H} {f : Nat → Option Nat} (hi : cw_okD ii) (hk : kc ≤ mc ∧ ks ≤ ms) (hd : cw_look (cw_tb ii) pc = some (.aaload, 1)) (ha : h[a]? = some (.inl (2, sz, .inr (.inr (.inr (.inr f)))))) (hs : Nat.ble sz 65536 = true) (hx : x = nI j) (hj : j < sz) (hf : f j = some q)
    (kk : cw_W l ii mc ms h0 r h1 kc ks (pc + 1) lv (.ref q :: st) h) : cw_W l ii mc ms h0 r h1 kc ks pc lv (.int x :: .ref a :: st) h := by
  refine cw_run hi hk 1 [] [j] [] ?_
  unfold cw_go
  simp only [hd]
  unfold cw_stp
  simp only [ha, hs]
  refine ⟨hx, hj, ?_⟩
  show cw_W l ii mc ms h0 r h1 kc ks (pc + 1) lv (va_rf (f j) :: st) h
  rw [hf]
  exact kk
theorem cw_aaln {l : Launch} {ii : cw_I} {mc ms : Nat} {h0 : cw_H} {r : Option Value} {h1 : cw_H} {kc ks pc a sz j : Nat} {x : Int32} {lv : cw_LV} {st : List Value} {h : cw_H} {f : Nat → Option Nat} (hi : cw_okD ii) (hk : kc ≤ mc ∧ ks ≤ ms) (hd : cw_look (cw_tb ii) pc = some (.aaload, 1)) (ha : h[a]? = some (.inl (2, sz, .inr (.inr (.inr (.inr f)))))) (hs : Nat.ble sz 65536 = true) (hx : x = nI j) (hj : j < sz) (hf : f j = none)
    (kk : cw_W l ii mc ms h0 r h1 kc ks (pc + 1) lv (.null :: st) h) : cw_W l ii mc ms h0 r h1 kc ks pc lv (.int x :: .ref a :: st) h := by
  refine cw_run hi hk 1 [] [j] [] ?_
  unfold cw_go
  simp only [hd]
  unfold cw_stp
  simp only [ha, hs]
  refine ⟨hx, hj, ?_⟩
  show cw_W l ii mc ms h0 r h1 kc ks (pc + 1) lv (va_rf (f j) :: st) h
  rw [hf]
  exact kk
theorem cw_aast {l : Launch} {ii : cw_I} {mc ms : Nat} {h0 : cw_H} {r : Option Value} {h1 : cw_H} {kc ks pc a sz j q : Nat} {x : Int32} {lv : cw_LV} {st : List Value} {h : cw_H} {f : Nat → Option Nat} {fs : List Value} (hi : cw_okD ii) (hk : kc ≤ mc ∧ ks ≤ ms) (hd : cw_look (cw_tb ii) pc = some (.aastore, 1)) (ha : h[a]? = some (.inl (2, sz, .inr (.inr (.inr (.inr f)))))) (hq : h[q]? = some (.inr (1, fs))) (hs : Nat.ble sz 65536 = true) (hx : x = nI j) (hj : j < sz)
    (kk : cw_W l ii mc ms h0 r h1 kc ks (pc + 1) lv st (h.set a (.inl (2, sz, .inr (.inr (.inr (.inr (va_up f j (some q)))))))))  : cw_W l ii mc ms h0 r h1 kc ks pc lv (.ref q :: .int x :: .ref a :: st) h := by
  refine cw_run hi hk 1 [] [j] [] ?_
  unfold cw_go
  simp only [hd]
  unfold cw_stp
  simp only [ha, hq, hs]
  exact ⟨hx, hj, kk⟩
theorem cc_g_up (R : Nat → Option Nat) (v j : Nat) : va_up (cc_g R) v (some (15 + 5 * j)) = cc_g (va_up R v (some j)) := by
  funext k
  show (if k = v then some (15 + 5 * j) else (R k).map (fun j => 15 + 5 * j)) = Option.map (fun j => 15 + 5 * j) (if k = v then some j else R k)
  by_cases e : k = v
  · rw [if_pos e, if_pos e]; rfl
  · rw [if_neg e, if_neg e]
theorem cc_g_s {R : Nat → Option Nat} {i j : Nat} (h : R i = some j) : cc_g R i = some (15 + 5 * j) := by unfold cc_g; rw [h]; rfl
theorem cc_g_n {R : Nat → Option Nat} {i : Nat} (h : R i = none) : cc_g R i = none := by unfold cc_g; rw [h]; rfl
theorem cc_s_wf {n a b c d : Nat} {S : cs_S} {r : cw_H} (ha : a < n) (hb : b < n) (hc : c < n) (hd : d < n) (hr : ∀ q ∈ r, cw_wfe n q) : ∀ q ∈ cc_s a b c d S r, cw_wfe n q := by
  intro q hq
  unfold cc_s at hq
  simp only [List.mem_cons] at hq
  rcases hq with rfl | rfl | rfl | rfl | rfl | hq
  · intro v hv
    simp only [List.mem_cons, List.not_mem_nil, or_false] at hv
    rcases hv with rfl | rfl | rfl | rfl | rfl | rfl | rfl | rfl | rfl | rfl | rfl | rfl | rfl | rfl <;> first | trivial | assumption
  · trivial
  · trivial
  · trivial
  · trivial
  · exact hr q hq
theorem cc_L_wf : ∀ (b : Nat) (L : List cs_S) (n : Nat), b + 5 * L.length ≤ n → ∀ q ∈ cc_L b L, cw_wfe n q
  | _, [], _, _ => fun q hq => by cases hq
  | b, S :: r, n, h => by
    simp only [List.length_cons] at h
    exact cc_s_wf (by omega) (by omega) (by omega) (by omega) (cc_L_wf (b + 5) r n (by omega))
theorem cc_wf {u : Int32} {N T : cs_S} {H G : Nat → Option Nat} {f : Nat → Int32} {pl : Int32} {L : List cs_S} {n : Nat} (hn : 15 + 5 * L.length ≤ n) (hH : ∀ i j, H i = some j → j < L.length) (hG : ∀ i j, G i = some j → j < L.length) : ∀ q ∈ cc_h u N T H G f pl L, cw_wfe n q := by
  intro q hq
  unfold cc_h at hq
  rw [List.mem_cons] at hq
  have hg : ∀ R : Nat → Option Nat, (∀ i j, R i = some j → j < L.length) → ∀ i k, cc_g R i = some k → k < n := by
    intro R hR i k hk
    obtain ⟨j, h1, h2⟩ := Option.map_eq_some_iff.mp (show (R i).map (fun j => 15 + 5 * j) = some k from hk)
    have := hR i j h1
    omega
  rcases hq with rfl | hq
  · intro v hv
    simp only [List.mem_cons, List.not_mem_nil, or_false] at hv
    rcases hv with rfl | rfl | rfl | rfl | rfl | rfl <;> first | trivial | (show _ < n; omega)
  · refine cc_s_wf (by omega) (by omega) (by omega) (by omega) (cc_s_wf (by omega) (by omega) (by omega) (by omega) ?_) q hq
    intro q hq
    simp only [List.mem_cons] at hq
    rcases hq with rfl | rfl | rfl | rfl | hq
    · exact hg H hH
    · exact hg G hG
    · intro v hv
      simp only [List.mem_cons, List.not_mem_nil, or_false] at hv
      rcases hv with rfl | rfl
      · show 14 < n; omega
      · trivial
    · trivial
    · exact cc_L_wf 15 L n hn q hq
theorem cc_wl {u : Int32} {N T : cs_S} {H G : Nat → Option Nat} {f : Nat → Int32} {pl : Int32} {L : List cs_S} {lv : cw_LV} (e : lv.all (fun q => cw_wfvb 15 q.2) = true) : ∀ q ∈ lv, cw_wfv (cc_h u N T H G f pl L).length q.2 := by
  intro q hq
  have h1 := cw_wfvb_ok (List.all_eq_true.mp e q hq)
  rw [cc_len]
  revert h1
  cases q.2 with
  | ref k => exact fun h => Nat.lt_of_lt_of_le h (Nat.le_add_right _ _)
  | _ => exact fun _ => trivial
theorem cc_ws {u : Int32} {N T : cs_S} {H G : Nat → Option Nat} {f : Nat → Int32} {pl : Int32} {L : List cs_S} {st : List Value} (e : st.all (cw_wfvb 15) = true) : ∀ v ∈ st, cw_wfv (cc_h u N T H G f pl L).length v := by
  intro q hq
  have h1 := cw_wfvb_ok (List.all_eq_true.mp e q hq)
  rw [cc_len]
  revert h1
  cases q with
  | ref k => exact fun h => Nat.lt_of_lt_of_le h (Nat.le_add_right _ _)
  | _ => exact fun _ => trivial
theorem cc_lel {u u' : Int32} {N T N' T' : cs_S} {H G H' G' : Nat → Option Nat} {f f' : Nat → Int32} {pl pl' : Int32} {L L' : List cs_S} (h : L.length ≤ L'.length) : (cc_h u N T H G f pl L).length ≤ (cc_h u' N' T' H' G' f' pl' L').length := by
  rw [cc_len, cc_len]; omega
theorem cc_app {u : Int32} {N T : cs_S} {H G : Nat → Option Nat} {f : Nat → Int32} {pl : Int32} {L : List cs_S} (S : cs_S) : cc_h u N T H G f pl L ++ (cs_h S).map (cw_re (fun k => (15 + 5 * L.length) + k)) = cc_h u N T H G f pl (L ++ [S]) := by
  unfold cc_h
  rw [cc_L_app]
  rfl
/-- the oldest one to the end -/
def cc_rt (H : Nat → Option Nat) (i : Nat) : Nat → Option Nat := fun k => if k + 1 < i then H (k + 1) else H k
def cc_rot (H : Nat → Option Nat) : Nat → Option Nat := va_up (cc_rt H 6) 5 (H 0)
theorem cc_rt_1 (H : Nat → Option Nat) : cc_rt H 1 = H := by funext k; unfold cc_rt; rw [if_neg (by omega)]
theorem cc_rt_s (H : Nat → Option Nat) {i : Nat} (h : 1 ≤ i) : va_up (cc_rt H i) (i - 1) (cc_rt H i i) = cc_rt H (i + 1) := by
  funext k
  unfold va_up cc_rt
  by_cases e : k = i - 1
  · subst e; rw [if_pos rfl, if_neg (by omega), if_pos (by omega), show i - 1 + 1 = i by omega]
  · rw [if_neg e]
    by_cases q : k + 1 < i
    · rw [if_pos q, if_pos (by omega)]
    · rw [if_neg q, if_neg (by omega)]
section CCR
variable {l : Launch} {u : Int32} {N T : cs_S} {H G : Nat → Option Nat} {f : Nat → Int32} {pl : Int32} {L : List cs_S}
theorem cc_mv_loop {j0 : Nat} (h0 : H 0 = some j0) (hH : ∀ i j, H i = some j → j < L.length) (h6 : ∀ i, i < 6 → ∃ j, H i = some j) {hb : cw_H} : ∀ n i lv', i + n = 6 → 1 ≤ i → cw_W l mm_X2_moveOldestToEnd 0 0 hb none (cc_h u N T (cc_rot H) G f pl L) 0 0 9 ([(2, .int (nI i)), (1, .ref (15 + 5 * j0)), (0, .ref 0)] ++ lv') [] (cc_h u N T (cc_rt H i) G f pl L) := by
  have hcell : ∀ (R : Nat → Option Nat) (j : Nat), j < L.length → ∃ fs, (cc_h u N T R G f pl L)[15 + 5 * j]? = some (.inr (1, fs)) := fun R j hj => ⟨_, (cc_at_L (List.getElem?_eq_getElem hj)).1⟩
  intro n
  induction n with
  | zero =>
    intro i lv' hi h1
    obtain rfl : i = 6 := by omega
    refine cw_less [0, 1, 2] rfl ?_
    obtain ⟨fs, hq⟩ := hcell (cc_rt H 6) j0 (hH 0 j0 h0)
    refine cw_run cw_kX2_moveOldestToEnd cw_z 7 [true] [] [] (And.intro ((show nI 6 ≤ nI 6 from Int32.le_refl _)) (?_))
    refine cw_aast (j := 5) cw_kX2_moveOldestToEnd cw_z rfl rfl hq rfl rfl (by omega) ?_
    have e : (cc_h u N T (cc_rt H 6) G f pl L).set 11 (.inl (2, 6, .inr (.inr (.inr (.inr (va_up (cc_g (cc_rt H 6)) 5 (some (15 + 5 * j0)))))))) = cc_h u N T (cc_rot H) G f pl L := by
      rw [cc_g_up]; unfold cc_rot; rw [h0]; rfl
    rw [e]
    exact cw_run cw_kX2_moveOldestToEnd cw_z 0 [] [] [] (cw_retv cw_kX2_moveOldestToEnd cw_z rfl rfl)
  | succ n ih =>
    intro i lv' hi h1
    refine cw_less [0, 1, 2] rfl ?_
    have hge : ¬ nI 6 ≤ nI i := nI_ge (by omega) (by omega)
    obtain ⟨j, hj⟩ := h6 i (by omega)
    have ei : cc_rt H i i = some j := by unfold cc_rt; rw [if_neg (by omega)]; exact hj
    obtain ⟨fs, hq⟩ := hcell (cc_rt H i) j (hH i j hj)
    refine cw_run cw_kX2_moveOldestToEnd cw_z 11 [false] [] [] (And.intro (hge) (?_))
    refine cw_aald (j := i) cw_kX2_moveOldestToEnd cw_z rfl rfl rfl rfl (by omega) (cc_g_s ei) ?_
    refine cw_aast (j := i - 1) cw_kX2_moveOldestToEnd cw_z rfl rfl hq rfl (pk_sub h1) (by omega) ?_
    have e : (cc_h u N T (cc_rt H i) G f pl L).set 11 (.inl (2, 6, .inr (.inr (.inr (.inr (va_up (cc_g (cc_rt H i)) (i - 1) (some (15 + 5 * j)))))))) = cc_h u N T (cc_rt H (i + 1)) G f pl L := by
      rw [cc_g_up, ← ei, cc_rt_s H h1]; rfl
    rw [e]
    have ih1 := ih (i + 1) [] (by omega) (by omega)
    rw [← nI_add i 1] at ih1
    exact cw_run cw_kX2_moveOldestToEnd cw_z 2 [] [] [] ih1
theorem cc_move (hH : ∀ i j, H i = some j → j < L.length) (h6 : ∀ i, i < 6 → ∃ j, H i = some j) : cw_M l mm_X2_moveOldestToEnd 0 0 [.ref 0] (cc_h u N T H G f pl L) none (cc_h u N T (cc_rot H) G f pl L) := by
  refine cw_enter cw_KX2_moveOldestToEnd (by decide) (Nat.le_of_ble_eq_true rfl) ?_
  obtain ⟨j0, h0⟩ := h6 0 (by omega)
  refine cw_run cw_kX2_moveOldestToEnd cw_z 3 [] [] [] ?_
  refine cw_aald (j := 0) cw_kX2_moveOldestToEnd cw_z rfl rfl rfl rfl (by omega) (cc_g_s h0) ?_
  have q := cc_mv_loop (l := l) (u := u) (N := N) (T := T) (G := G) (f := f) (pl := pl) (hb := cc_h u N T H G f pl L) h0 hH h6 5 1 [] (by omega) (by omega)
  rw [cc_rt_1] at q
  exact cw_run cw_kX2_moveOldestToEnd cw_z 3 [] [] [] q
/-- recorded: behind the room for it -/
theorem cc_rec3 {hb : cw_H} (hbl : hb.length ≤ (cc_h u N T H G f pl L).length) {v j kc ks : Nat} {S : cs_S} (hk : kc ≤ 5 ∧ ks ≤ 101) (hv : v ≤ 5) (hj : H v = some j) (hS : L[j]? = some S) : cw_W l mm_X2_record 5 101 hb none (cc_h (nI (v + 1)) N T H G f pl (L.set j (cs_copy S N))) kc ks 62 [(0, .ref 0)] [] (cc_h (nI v) N T H G f pl L) := by
  refine cw_run cw_kX2_record hk 4 [] [] [] (show cw_W l mm_X2_record 5 101 hb none (cc_h (nI (v + 1)) N T H G f pl (L.set j (cs_copy S N))) kc ks 70 [(0, .ref 0)] [.int (nI v), .ref 11] (cc_h (nI v) N T H G f pl L) from ?_)
  refine cw_aald (j := v) cw_kX2_record hk rfl rfl rfl rfl (by omega) (cc_g_s hj) ?_
  refine cw_run cw_kX2_record hk 2 [] [] [] (show cw_W l mm_X2_record 5 101 hb none (cc_h (nI (v + 1)) N T H G f pl (L.set j (cs_copy S N))) kc ks 75 [(0, .ref 0)] [.ref 1, .ref (15 + 5 * j)] (cc_h (nI v) N T H G f pl L) from ?_)
  refine cw_callAV (mc' := 0) (ms' := 0) cw_kX2_record hk rfl rfl (Or.inr rfl) (show 1 ≤ 2 by decide) (by decide) rfl (by decide) (cc_at_L hS).1 rfl (by decide) (cc_copyL hS) (by rw [cc_len, cc_len, List.length_set]; exact Nat.le_refl _) (by rw [cc_len] at hbl ⊢; exact hbl) (by rw [cc_len, cc_len]; exact Nat.le_refl _) (cc_wl rfl) (cc_ws rfl) ?_
  rw [← nI_add v 1]
  exact cw_run cw_kX2_record hk 6 [] [] [] (cw_retv cw_kX2_record hk rfl rfl)
def cc_blank : List Value := [.int 0, .int 0, .int 0, .int 0, .int 0, .null, .int 0, .null, .null, .null, .int 0, .int 0, .int 0, .int 0]
/-- a new search at the end of the heap, where a method of the class stands with what it holds -/
theorem cc_newS {ii : cw_I} {hb : cw_H} {rr : Option Value} {he : cw_H} {pc : Nat} {lv : cw_LV} {st : List Value} (hi : cw_okD ii) (hc2 : cw_c ii = 2) (hf : 1 < cw_f ii) (hd1 : cw_look (cw_tb ii) pc = some (.new 9, 3)) (hd2 : cw_look (cw_tb ii) (pc + 3) = some (.dup, 1)) (hd3 : cw_look (cw_tb ii) (pc + 4) = some (.invokespecial 11, 3))
    (hH : ∀ i j, H i = some j → j < L.length) (hG : ∀ i j, G i = some j → j < L.length) (hw : (st.map fun v => v.category).sum ≤ 7) (wl : ∀ q ∈ lv, cw_wfv 15 q.2) (ws : ∀ v ∈ st, cw_wfv 15 v) (hbl : hb.length ≤ 15 + 5 * L.length) (hel : 15 + 5 * (L.length + 1) ≤ he.length)
    (kk : cw_W l ii 5 101 hb rr he 5 101 (pc + 7) lv (.ref (15 + 5 * L.length) :: st) (cc_h u N T H G f pl (L ++ [cs_z]))) : cw_W l ii 5 101 hb rr he 0 0 pc lv st (cc_h u N T H G f pl L) := by
  have up : ∀ {n : Nat}, 15 ≤ n → ∀ v, cw_wfv 15 v → cw_wfv n v := by
    intro n hn v hv
    cases v with
    | ref k => exact Nat.lt_of_lt_of_le hv hn
    | _ => trivial
  have hl := cc_len u N T H G f pl L
  refine cw_new cc_blank hi (show 0 + 1 ≤ 5 ∧ 0 + cw_cn 1 ≤ 101 by decide) hd1 (by rw [hc2]; rfl) (by decide) (fun _ => rfl) ⟨fun q hq => up (by omega) _ (wl q hq), fun v hv => up (by omega) _ (ws v hv), by rw [hl]; exact cc_wf (Nat.le_refl _) hH hG⟩ (by rw [hl]; exact hbl) (by rw [hl]; omega) ?_
  rw [hl]
  refine cw_run hi (show 0 + 1 ≤ 5 ∧ 0 + cw_cn 1 ≤ 101 by decide) 1 [] [] [] ?_
  unfold cw_go
  simp only [hd2]
  show cw_W l ii 5 101 hb rr he (0 + 1) (0 + cw_cn 1) (pc + 3 + 1) lv (.ref (15 + 5 * L.length) :: .ref (15 + 5 * L.length) :: st) _
  have hM := cw_liftA (cs_init l) (by decide) (cc_h u N T H G f pl L) (b := 15 + 5 * L.length) hl (by
      intro q hq
      exact cw_wfeb_ok (List.all_eq_true.mp (show (cs_h cs_z).all (cw_wfeb (cs_h cs_z).length) = true from rfl) q hq)) (by
      intro q hq
      exact cw_wfeb_ok (List.all_eq_true.mp (show cs_blank.all (cw_wfeb cs_blank.length) = true from rfl) q hq)) (cc_wf (by omega) hH hG) (fun v hv => by cases hv)
  rw [cc_app] at hM
  refine cw_callAI (mc' := 4) (ms' := 87) hi (show 0 + 1 + 4 ≤ 5 ∧ 0 + cw_cn 1 + 87 ≤ 101 by decide) hd3 (by rw [hc2]; rfl) (Or.inr rfl) rfl hf (by simp only [List.map_cons, List.sum_cons]; show 1 + _ ≤ 8; omega) hM (by rw [cc_len, List.length_append, hl, List.length_append]; show _ + 1 ≤ 15 + 5 * (_ + 1); omega) (by rw [List.length_append, hl]; omega) (by rw [cc_len, List.length_append]; exact hel) (fun q hq => up (by rw [List.length_append, hl]; omega) _ (wl q hq)) (fun v hv => ?_) kk
  rcases List.mem_cons.mp hv with rfl | hv
  · show 15 + 5 * L.length < _
    rw [List.length_append, hl]
    exact Nat.lt_succ_self _
  · exact up (by rw [List.length_append, hl]; omega) _ (ws v hv)
def cc_rHf (R : Nat → Option Nat) (v : Nat) (L : List cs_S) : Nat → Option Nat := match R v with
  | some _ => R
  | none => va_up R v (some L.length)
def cc_rL (R : Nat → Option Nat) (v : Nat) (L : List cs_S) (N : cs_S) : List cs_S := match R v with
  | some j => L.set j (cs_copy (L.getD j cs_z) N)
  | none => L ++ [cs_copy cs_z N]
theorem cc_rL_len (R : Nat → Option Nat) (v : Nat) (L : List cs_S) (N : cs_S) : L.length ≤ (cc_rL R v L N).length := by
  unfold cc_rL
  split
  · rw [List.length_set]; exact Nat.le_refl _
  · rw [List.length_append]; exact Nat.le_add_right _ _
theorem cc_rec2 {hb : cw_H} (hbl : hb.length ≤ 15 + 5 * L.length) {v : Nat} (hv : v ≤ 5) (hH : ∀ i j, H i = some j → j < L.length) (hG : ∀ i j, G i = some j → j < L.length) {lv : cw_LV} {is : List Nat} (hlv : lv_pick lv is = [(0, .ref 0)]) : cw_W l mm_X2_record 5 101 hb none (cc_h (nI (v + 1)) N T (cc_rHf H v L) G f pl (cc_rL H v L N)) 0 0 18 lv [] (cc_h (nI v) N T H G f pl L) := by
  refine cw_less is hlv ?_
  refine cw_run cw_kX2_record cw_z 11 [false, false] [] [] (And.intro (nI_pos (by omega)) (And.intro ((show ¬ nI 6 ≤ nI v from nI_ge (by omega) (by omega))) (?_)))
  unfold cc_rHf cc_rL
  cases hj : H v with
  | some j =>
    have hl := hH v j hj
    refine cw_aald (j := v) cw_kX2_record cw_z rfl rfl rfl rfl (by omega) (cc_g_s hj) ?_
    have q := cc_rec3 (l := l) (N := N) (T := T) (G := G) (f := f) (pl := pl) (u := nI v) (hb := hb) (kc := 0) (ks := 0) (by rw [cc_len]; exact hbl) (by decide) hv hj (List.getElem?_eq_getElem hl)
    have e : L.getD j cs_z = L[j] := by rw [List.getD_eq_getElem?_getD, List.getElem?_eq_getElem hl]; rfl
    rw [← e] at q
    exact cw_run cw_kX2_record cw_z 1 [] [] [] q
  | none =>
    refine cw_aaln (j := v) cw_kX2_record cw_z rfl rfl rfl rfl (by omega) (cc_g_n hj) ?_
    refine cw_run cw_kX2_record cw_z 5 [] [] [] ?_
    refine cc_newS (l := l) (pc := 54) cw_kX2_record rfl (by decide) rfl rfl rfl hH hG (Nat.le_of_ble_eq_true rfl) (lv := [(0, .ref 0)]) (st := [.int (nI v), .ref 11]) (fun q hq => cw_wfvb_ok (List.all_eq_true.mp (show [(0, Value.ref 0)].all (fun q => cw_wfvb 15 q.2) = true from rfl) q hq)) (fun q hq => cw_wfvb_ok (List.all_eq_true.mp (show [Value.int (nI v), .ref 11].all (cw_wfvb 15) = true from rfl) q hq)) hbl (by rw [cc_len, List.length_append]; exact Nat.le_refl _) ?_
    have hz : (L ++ [cs_z])[L.length]? = some cs_z := by simp
    refine cw_aast (j := v) cw_kX2_record (by decide) rfl rfl (cc_at_L hz).1 rfl rfl (by omega) ?_
    have e : (cc_h (nI v) N T H G f pl (L ++ [cs_z])).set 11 (.inl (2, 6, .inr (.inr (.inr (.inr (va_up (cc_g H) v (some (15 + 5 * L.length)))))))) = cc_h (nI v) N T (va_up H v (some L.length)) G f pl (L ++ [cs_z]) := by
      rw [cc_g_up]; rfl
    rw [e]
    have q := cc_rec3 (l := l) (N := N) (T := T) (G := G) (f := f) (pl := pl) (u := nI v) (hb := hb) (kc := 5) (ks := 101) (H := va_up H v (some L.length)) (L := L ++ [cs_z]) (by rw [cc_len, List.length_append]; omega) (by decide) hv (j := L.length) (if_pos rfl) hz
    have e2 : (L ++ [cs_z]).set L.length (cs_copy cs_z N) = L ++ [cs_copy cs_z N] := by simp
    rw [e2] at q
    exact q
def cc_rH (u : Nat) (H : Nat → Option Nat) : Nat → Option Nat := if u = 6 then cc_rot H else H
/-- what bounds the class's heap -/
def cc_ok (u : Nat) (H G : Nat → Option Nat) (L : List cs_S) : Prop := u ≤ 6 ∧ (∀ i j, H i = some j → j < L.length) ∧ (∀ i j, G i = some j → j < L.length) ∧ (∀ i, i < u → ∃ j, H i = some j) ∧ (∀ i k j, H i = some j → H k = some j → i = k) ∧ (∀ i k j, G i = some j → G k = some j → i = k) ∧ ∀ i k j, H i = some j → G k = some j → False
def cc_Hr (u : Nat) (H : Nat → Option Nat) (L : List cs_S) : Nat → Option Nat := cc_rHf (cc_rH u H) (cm_ru u) L
def cc_Lr (u : Nat) (H : Nat → Option Nat) (L : List cs_S) (N : cs_S) : List cs_S := cc_rL (cc_rH u H) (cm_ru u) L N
theorem cc_rot_at (H : Nat → Option Nat) (k : Nat) : cc_rot H k = if k < 5 then H (k + 1) else if k = 5 then H 0 else H k := by
  unfold cc_rot va_up cc_rt
  by_cases e : k = 5
  · rw [if_pos e, if_neg (by omega), if_pos e]
  · rw [if_neg e]
    by_cases q : k < 5
    · rw [if_pos q, if_pos (by omega)]
    · rw [if_neg q, if_neg (by omega), if_neg e]
theorem cc_record {u : Nat} (hok : cc_ok u H G L) : cw_M l mm_X2_record 5 101 [.ref 0] (cc_h (nI u) N T H G f pl L) none (cc_h (nI (cm_ru u + 1)) N T (cc_Hr u H L) G f pl (cc_Lr u H L N)) := by
  obtain ⟨hu, hH, hG, hun, -⟩ := hok
  refine cw_enter cw_KX2_record (by decide) (Nat.le_of_ble_eq_true rfl) ?_
  unfold cc_Hr cc_Lr cc_rH cm_ru
  by_cases c : u = 6
  · subst c
    rw [if_pos rfl, if_pos rfl]
    have hrot : ∀ i j, cc_rot H i = some j → j < L.length := by
      intro i j h
      rw [cc_rot_at] at h
      split at h
      · exact hH _ _ h
      · split at h
        · exact hH _ _ h
        · exact hH _ _ h
    refine cw_run cw_kX2_record cw_z 9 [false] [] [(_, _)] (And.intro ((show ¬ nI 6 < nI 6 from nI_nlt (Nat.le_refl _) (by omega))) (And.intro (cc_move hH hun) (And.intro (cc_lel (Nat.le_refl _)) (cc_rec2 (by rw [cc_len]; exact Nat.le_refl _) (v := 5) (by omega) hrot hG (is := [0]) rfl))))
  · rw [if_neg c, if_neg c]
    exact cw_run cw_kX2_record cw_z 4 [true] [] [] (And.intro ((show nI u < nI 6 from nI_lt (by omega) (by omega))) (cc_rec2 (by rw [cc_len]; exact Nat.le_refl _) (by omega) hH hG (is := [0]) rfl))
/-- the call of record, from another method of the class -/
theorem cc_callrec {ii : cw_I} {rr : Option Value} {he : cw_H} {u pc : Nat} {lv : cw_LV} (hi : cw_okD ii) (hc2 : cw_c ii = 2) (hf : 2 < cw_f ii) (hd : cw_look (cw_tb ii) pc = some (.invokevirtual 51, 3)) (hok : cc_ok u H G L) (wl : lv.all (fun q => cw_wfvb 15 q.2) = true) (hel : 15 + 5 * (cc_Lr u H L N).length ≤ he.length)
    (kk : cw_W l ii 5 101 (cc_h (nI u) N T H G f pl L) rr he 5 101 (pc + 3) lv [] (cc_h (nI (cm_ru u + 1)) N T (cc_Hr u H L) G f pl (cc_Lr u H L N))) : cw_W l ii 5 101 (cc_h (nI u) N T H G f pl L) rr he 0 0 pc lv [.ref 0] (cc_h (nI u) N T H G f pl L) := by
  have hle := cc_rL_len (cc_rH u H) (cm_ru u) L N
  exact cw_callAV (ic := mm_X2_record) (mc' := 5) (ms' := 101) hi (by decide) hd (by rw [hc2]; rfl) (Or.inl rfl) (show 0 ≤ 1 by decide) hf rfl (by decide) (show (cc_h (nI u) N T H G f pl L)[0]? = some _ from rfl) rfl (by decide) (cc_record hok) (by rw [cc_len, cc_len]; unfold cc_Lr; omega) (Nat.le_refl _) (by rw [cc_len]; exact hel) (cc_wl wl) (cc_ws rfl) kk
end CCR
/-! the constructor -/
def cc_blk : cw_H := [.inr (2, [.null, .null, .null, .int 0, .null, .null])]
theorem cw_wfq {n N : Nat} : cw_wfe n (.inl (2, N, .inr (.inr (.inr (.inr (fun _ => none)))))) := fun _ _ h => by cases h
theorem cc_init (l : Launch) : cw_M l mm_X2_init 14 272 [.ref 0] cc_blk none (cc_h (nI 0) cs_z cs_z (fun _ => none) (fun _ => none) (fun _ => 0) (nI 0) []) := by
  have wz : ∀ q ∈ cs_h cs_z, cw_wfe (cs_h cs_z).length q := fun q hq => cw_wfeb_ok (List.all_eq_true.mp (show (cs_h cs_z).all (cw_wfeb (cs_h cs_z).length) = true from rfl) q hq)
  have wb : ∀ q ∈ cs_blank, cw_wfe cs_blank.length q := fun q hq => cw_wfeb_ok (List.all_eq_true.mp (show cs_blank.all (cw_wfeb cs_blank.length) = true from rfl) q hq)
  have wp : ∀ q ∈ cp_h (fun _ => 0) (nI 0), cw_wfe (cp_h (fun _ => 0) (nI 0)).length q := fun q hq => cw_wfeb_ok (List.all_eq_true.mp (show (cp_h (fun _ => 0) (nI 0)).all (cw_wfeb (cp_h (fun _ => 0) (nI 0)).length) = true from rfl) q hq)
  have wq : ∀ q ∈ ([.inr (0, [.null, .int 0])] : cw_H), cw_wfe 1 q := fun q hq => cw_wfeb_ok (List.all_eq_true.mp (show ([.inr (0, [.null, .int 0])] : cw_H).all (cw_wfeb 1) = true from rfl) q hq)
  refine cw_enter cw_KX2_init (by decide) (Nat.le_of_ble_eq_true rfl) ?_
  have w1 : ∀ (n : Nat) (q : cw_E), q ∈ ([.inr (2, [.ref 1, .ref 6, .ref 11, .int (nI 0), .ref 12, .null])] : cw_H) → 12 < n → cw_wfe n q := by
    intro n q hq hn
    obtain rfl : q = .inr (2, [.ref 1, .ref 6, .ref 11, .int (nI 0), .ref 12, .null]) := by simpa using hq
    intro v hv
    simp only [List.mem_cons, List.not_mem_nil, or_false] at hv
    rcases hv with rfl | rfl | rfl | rfl | rfl | rfl <;> first | trivial | (show _ < n; omega)
  have w2 : ∀ n, 12 < n → ∀ (q : cw_E), q ∈ (.inr (2, [.ref 1, .ref 6, .ref 11, .int (nI 0), .ref 12, .null]) :: cc_s 2 3 4 5 cs_z (cc_s 7 8 9 10 cs_z [.inl (2, 6, .inr (.inr (.inr (.inr (fun _ => none))))), .inl (2, 2, .inr (.inr (.inr (.inr (fun _ => none)))))]) : cw_H) → cw_wfe n q := by
    intro n hn q hq
    rcases List.mem_cons.mp hq with h | h
    · exact w1 n q (by simpa using h) hn
    · refine cc_s_wf (by omega) (by omega) (by omega) (by omega) (cc_s_wf (by omega) (by omega) (by omega) (by omega) ?_) q h
      intro q hq
      simp only [List.mem_cons, List.not_mem_nil, or_false] at hq
      rcases hq with rfl | rfl <;> exact cw_wfq
  refine cw_run cw_kX2_init (by decide) 3 [] [] [] (cw_new cc_blank cw_kX2_init (by decide) rfl rfl (by decide) (fun _ => rfl) (cw_wfb_ok rfl) (by decide) (by decide) ?_)
  refine cw_run cw_kX2_init (by decide) 1 [] [] [] ?_
  refine cw_callAI (mc' := 4) (ms' := 87) cw_kX2_init (by decide) rfl rfl (Or.inr rfl) rfl (by decide) (by decide) (cw_liftA (cs_init l) (by decide) cc_blk (b := 1) rfl wz wb (fun q hq => cw_wfeb_ok (List.all_eq_true.mp (show cc_blk.all (cw_wfeb 2) = true from rfl) q hq)) (fun v hv => by cases hv)) (by decide) (by decide) (by decide) (fun q hq => cw_wfvb_ok (List.all_eq_true.mp (show [(0, Value.ref 0)].all (fun q => cw_wfvb 2 q.2) = true from rfl) q hq)) (fun q hq => cw_wfvb_ok (List.all_eq_true.mp (show [Value.ref 1, .ref 0].all (cw_wfvb 2) = true from rfl) q hq)) ?_
  refine cw_run cw_kX2_init (by decide) 2 [] [] [] (cw_new cc_blank cw_kX2_init (by decide) rfl rfl (by decide) (fun _ => rfl) (cw_wfb_ok rfl) (by decide) (by decide) ?_)
  refine cw_run cw_kX2_init (by decide) 1 [] [] [] ?_
  refine cw_callAI (mc' := 4) (ms' := 87) cw_kX2_init (by decide) rfl rfl (Or.inr rfl) rfl (by decide) (by decide) (cw_liftA (cs_init l) (by decide) (.inr (2, [.ref 1, .null, .null, .int 0, .null, .null]) :: cc_s 2 3 4 5 cs_z []) (b := 6) rfl wz wb (fun q hq => cw_wfeb_ok (List.all_eq_true.mp (show (.inr (2, [.ref 1, .null, .null, .int 0, .null, .null]) :: cc_s 2 3 4 5 cs_z [] : cw_H).all (cw_wfeb 7) = true from rfl) q hq)) (fun v hv => by cases hv)) (by decide) (by decide) (by decide) (fun q hq => cw_wfvb_ok (List.all_eq_true.mp (show [(0, Value.ref 0)].all (fun q => cw_wfvb 7 q.2) = true from rfl) q hq)) (fun q hq => cw_wfvb_ok (List.all_eq_true.mp (show [Value.ref 6, .ref 0].all (cw_wfvb 7) = true from rfl) q hq)) ?_
  refine cw_run cw_kX2_init (by decide) 3 [] [] [] (cw_newq (N := 6) cw_kX2_init (by decide) rfl rfl (by decide) (cw_wfb_ok rfl) (by decide) (by decide) ?_)
  refine cw_run cw_kX2_init (by decide) 6 [] [] [] (cw_newq (N := 2) cw_kX2_init (by decide) rfl rfl (by decide) ⟨fun q hq => cw_wfvb_ok (List.all_eq_true.mp (show [(0, Value.ref 0)].all (fun q => cw_wfvb 12 q.2) = true from rfl) q hq), fun q hq => cw_wfvb_ok (List.all_eq_true.mp (show [Value.ref 0].all (cw_wfvb 12) = true from rfl) q hq), ?_⟩ (by decide) (by decide) ?_)
  · intro q hq
    have hq2 : q ∈ (.inr (2, [.ref 1, .ref 6, .ref 11, .int (nI 0), .null, .null]) :: cc_s 2 3 4 5 cs_z (cc_s 7 8 9 10 cs_z [.inl (2, 6, .inr (.inr (.inr (.inr (fun _ => none)))))]) : cw_H) := hq
    show cw_wfe 12 q
    rcases List.mem_cons.mp hq2 with rfl | h
    · intro v hv
      simp only [List.mem_cons, List.not_mem_nil, or_false] at hv
      rcases hv with rfl | rfl | rfl | rfl | rfl | rfl <;> first | trivial | exact Nat.le_of_ble_eq_true rfl
    · refine cc_s_wf (by omega) (by omega) (by omega) (by omega) (cc_s_wf (by omega) (by omega) (by omega) (by omega) ?_) q h
      intro q hq
      simp only [List.mem_cons, List.not_mem_nil, or_false] at hq
      rcases hq with rfl
      exact cw_wfq
  refine cw_run cw_kX2_init (by decide) 2 [] [] [] (cw_new [.null, .int 0] cw_kX2_init (by decide) rfl rfl (by decide) (fun _ => rfl) ⟨fun q hq => cw_wfvb_ok (List.all_eq_true.mp (show [(0, Value.ref 0)].all (fun q => cw_wfvb 13 q.2) = true from rfl) q hq), fun q hq => cw_wfvb_ok (List.all_eq_true.mp (show [Value.ref 0].all (cw_wfvb 13) = true from rfl) q hq), w2 13 (by decide)⟩ (by decide) (by decide) ?_)
  refine cw_run cw_kX2_init (by decide) 1 [] [] [] ?_
  refine cw_callAI (mc' := 1) (ms' := 60) cw_kX2_init (by decide) rfl rfl (Or.inr rfl) rfl (by decide) (by decide) (cw_liftA (cp_init l) (by decide) (.inr (2, [.ref 1, .ref 6, .ref 11, .int (nI 0), .ref 12, .null]) :: cc_s 2 3 4 5 cs_z (cc_s 7 8 9 10 cs_z [.inl (2, 6, .inr (.inr (.inr (.inr (fun _ => none))))), .inl (2, 2, .inr (.inr (.inr (.inr (fun _ => none)))))])) (b := 13) rfl wp wq (w2 14 (by decide)) (fun v hv => by cases hv)) (by decide) (by decide) (by decide) (fun q hq => cw_wfvb_ok (List.all_eq_true.mp (show [(0, Value.ref 0)].all (fun q => cw_wfvb 14 q.2) = true from rfl) q hq)) (fun q hq => cw_wfvb_ok (List.all_eq_true.mp (show [Value.ref 13, .ref 0].all (cw_wfvb 14) = true from rfl) q hq)) ?_
  exact cw_run cw_kX2_init (by decide) 1 [] [] [] (cw_retv cw_kX2_init (by decide) rfl rfl)

