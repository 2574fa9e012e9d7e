/-! the class: searches beside it, texts, undo, saving -/
section CCS
variable {l : Launch} {u : Int32} {N T : cs_S} {H G : Nat → Option Nat} {f : Nat → Int32} {pl : Int32} {L : List cs_S}
def cc_sra (S : cs_S) (w : Int32) : Int32 := if cs_sd S = 0 then -nI 6 else if w = nI 0 then cs_sp S else if w = nI 1 then cs_co S else cs_sd S
theorem cc_sr_sw : ∀ j, j ≤ 2 → j ≠ 0 → j ≠ 1 → Op.lookupswitch.offset [(0, 25), (1, 33)] 41 (nI j).toInt = 41 := by decide +kernel
/-- the trial behind a search for it -/
def cc_t0 (T N : cs_S) (x : Int32) : cs_S := cs_wfi (cs_anew (cs_copy T N)) x
def cc_ts (T N : cs_S) (x : Int32) : cs_S := cs_runs 2000 (cc_t0 T N x)
theorem cs_Bd_copy {S N : cs_S} (hB : cs_Bd N) : cs_Bd (cs_copy S N) := hB
def cc_ita (S : cs_S) : Int32 := if cs_sd S = 0 then -nI 6 else cs_sd S
abbrev cb_th (x : Int32) : Int32 := if x < nI 10 then x else x - nI 10
def cc_i0 (T N : cs_S) (x : Int32) : cs_S := cs_tell (cs_anew (cs_copy T N)) (cb_set x)
def cc_is (T N : cs_S) (x : Int32) : cs_S := cs_runs 2000 (cc_i0 T N x)
theorem cs_Bd_tell {S : cs_S} (hB : cs_Bd S) (h : cs_t S < 20) (c : Int32) : cs_Bd (cs_tell S c) := by
  obtain ⟨h1, h2⟩ := cs_t_tell hB.2.1.1 h c
  exact ⟨hB.1, ⟨h2, by rw [h1]; omega⟩, hB.2.2.1, hB.2.2.2⟩
theorem cc_put_bad {x : Int64} (h : cp_ci x 8 0 = nI 0) : cw_M l mm_X2_put 0 0 [.ref 0, .long x] (cc_h u N T H G f pl L) (some (.int (-nI 2))) (cc_h u N T H G f pl L) := by
  refine cw_enter cw_KX2_put (by decide) (Nat.le_of_ble_eq_true rfl) ?_
  have a := cp_charactersIn l (cc_h u N T H G f pl L) x
  rw [h] at a
  exact cw_run cw_kX2_put cw_z 6 [false] [] [(_, _)] (And.intro (a) (And.intro (Nat.le_refl _) (And.intro ((fun q => q rfl)) (cw_reti cw_kX2_put cw_z rfl rfl))))
theorem cc_put_many {x : Int64} {n m : Nat} (h : cp_ci x 8 0 = nI m) (hm : 0 < m) (h8 : m ≤ 8) (hn : n ≤ 60) (hx : 60 < n + m) : cw_M l mm_X2_put 0 0 [.ref 0, .long x] (cc_h u N T H G f (nI n) L) (some (.int (-nI 4))) (cc_h u N T H G f (nI n) L) := by
  refine cw_enter cw_KX2_put (by decide) (Nat.le_of_ble_eq_true rfl) ?_
  have a := cp_charactersIn l (cc_h u N T H G f (nI n) L) x
  rw [h] at a
  exact cw_run cw_kX2_put cw_z 13 [true, false] [] [(_, _)] (And.intro (a) (And.intro (Nat.le_refl _) (And.intro (nI_ne0 hm (by omega)) (And.intro ((show ¬ nI n + nI m ≤ nI 60 by rw [nI_add]; exact nI_ge hx (by omega))) (cw_reti cw_kX2_put cw_z rfl rfl)))))
theorem cc_put_ok {x : Int64} {n m : Nat} (h : cp_ci x 8 0 = nI m) (hm : 0 < m) (hx : n + m ≤ 60) : cw_M l mm_X2_put 0 0 [.ref 0, .long x] (cc_h u N T H G f (nI n) L) (some (.int (nI (n + m)))) (cc_h u N T H G (cp_ap x m n f) (nI (n + m)) L) := by
  refine cw_enter cw_KX2_put (by decide) (Nat.le_of_ble_eq_true rfl) ?_
  have a := cp_charactersIn l (cc_h u N T H G f (nI n) L) x
  rw [h] at a
  exact cw_run cw_kX2_put cw_z 20 [true, true] [] [(_, _), (_, _)] (And.intro (a) (And.intro (Nat.le_refl _) (And.intro (nI_ne0 hm (by omega)) (And.intro ((show nI n + nI m ≤ nI 60 by rw [nI_add]; exact nI_le hx (by omega))) (And.intro (cc_pad (cp_append l f x hx)) (And.intro (Nat.le_refl _) (cw_reti cw_kX2_put cw_z rfl rfl)))))))
theorem cc_wipe : cw_M l mm_X2_wipe 0 0 [.ref 0] (cc_h u N T H G f pl L) (some (.int pl)) (cc_h u N T H G f (nI 0) L) := by
  refine cw_enter cw_KX2_wipe (by decide) (Nat.le_of_ble_eq_true rfl) ?_
  exact cw_run cw_kX2_wipe cw_z 8 [] [] [(_, _)] (And.intro (cc_pad (cp_empty l f pl)) (And.intro (Nat.le_refl _) (cw_reti cw_kX2_wipe cw_z rfl rfl)))
theorem cw_aldN {ii : cw_I} {mc ms : Nat} {h0 : cw_H} {r : Option Value} {h1 : cw_H} {kc ks pc : Nat} {lv : cw_LV} {st : List Value} {h : cw_H} {k : Fin 4} (hi : cw_okD ii) (hd : cw_look (cw_tb ii) pc = some (.aload_n k, 1)) (hv : cw_look lv k.val = some .null) (kk : cw_W l ii mc ms h0 r h1 kc ks (pc + 1) lv (.null :: st) h) : cw_W l ii mc ms h0 r h1 kc ks pc lv st h := by
  intro p e R s m args below meth c D cA ad0 hX hR1 hR2 ad H locs ls hkp hP hD hS hl
  have hX0 := hX
  obtain ⟨hx, hb, hml, hown, hts, hKs, hfr, hlo, hnm, hret, hlocks⟩ := hX
  have hdg : decode (cw_b ii) pc = .ok (.aload_n k, 1) := hi.1 (pc, .aload_n k, 1) (cw_look_mem hd)
  have hv2 := cw_L_at hl hv
  have q := kk p e R s m args below meth c D cA ad0 hX0 hR1 hR2 ad H locs ls hkp hP hD hS hl
  exact lv_aload_nN hx hb hdg rfl hv2 q
end CCS
