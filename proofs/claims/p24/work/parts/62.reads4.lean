/-! p24: the law's reads -/
def pz_f (S : cs_S) : Nat → Int32 := fun j => if j = 0 then cs_th S else if j = 1 then cs_re S else if j = 2 then cs_fi S else if j = 3 then cs_to S else cs_cl S (j - 49)
/-- what is behind clauses that came -/
def rd_Good (T : cs_S) (G : Nat → Option Nat) (L : List cs_S) (le tr : Nat → Int32) (hf : cw_H) : Prop := ∃ (u' : Nat) (S' : cs_S) (H' : Nat → Option Nat) (f' : Nat → Int32) (L' : List cs_S) (q' on' ze' re' fx : Nat → Int32), hf = px_h q' on' ze' le re' tr (cc_h (nI u') S' T H' G f' (nI 0) L') ∧ cc_ok u' H' G L' ∧ L.length ≤ L'.length ∧ L'.length ≤ L.length + 1 ∧ cr S' fx ∧ pr (cs_sp S') S' q' on' ze' le re' tr
section PRD
variable {l : Launch} {q on ze le re tr f : Nat → Int32} {u : Nat} {S T : cs_S} {H G : Nat → Option Nat} {L : List cs_S} {fx : Nat → Int32}
theorem pb_anew (h : cr_I S) (hr : pr (cs_sp S) S q on ze le re tr) : ∀ g, g ≤ cs_g S → pb_n le (fun k => cs_s S k % 10) (-nI 1) g = 0
  | 0, _ => rfl
  | g + 1, hg => by
    have hl := (h.2.2.1.1 g (by omega)).2.2
    have g9 := cr_g9 h
    unfold pb_n
    rw [(hr.2.2.2 g (by omega)).2.1, hl.1, if_neg (fun z => ?_), pb_anew h hr g (by omega)]
    have a : (-nI 1 : Int32) < 0 := by decide
    have b : ¬ nI (cs_l S g) < 0 := nI_pos (by omega)
    exact b (Int32.lt_of_le_of_lt z a)
theorem pr_tell (h : cr S fx) (hr : pr (cs_sp S) S q on ze le re tr) {many : Nat} (hm : cs_t S + many ≤ 20) {cls on' ze' q2 re2 : Nat → Int32} (a3 : ∀ k, k < cs_t S → on' k = on k ∧ ze' k = ze k) (a4 : ∀ i, i < many → pr_c (cls i) (on' (cs_t S + i)) (ze' (cs_t S + i)) ∧ cr_c (cs_k S) (cls i)) (F : pb_F (-nI 1) (pb_n le (fun k => cs_s S k % 10) (-nI 1) (cs_g S)) (cs_g S) (fun k => cs_s S k % 10) (upd q 3 (q 3 + nI many)) re q2 re2) : (∃ fx', cr (cs_anew (rd_tl cls many 0 S)) fx') ∧ pr (cs_sp (cs_anew (rd_tl cls many 0 S))) (cs_anew (rd_tl cls many 0 S)) (pa_q q2) on' ze' le re2 tr := by
  have hI := h.1
  have hB := hI.1.1
  have h9 := cr_k9 hI
  obtain ⟨⟨s1, s2⟩, ⟨s3, s4, s5⟩, s6⟩ := rd_tl_spec cls many 0 S hB.2.1.1 (by omega)
  obtain ⟨S', hS'⟩ : ∃ S', S' = rd_tl cls many 0 S := ⟨_, rfl⟩
  rw [← hS'] at s1 s2 s3 s4 s5 s6 ⊢
  have fk : cs_k S' = cs_k S := by unfold cs_k; rw [s3]
  have hcl : ∀ j, j < cs_t S' → cr_c (cs_k S') (cs_cl S' j) ∧ pr_c (cs_cl S' j) (on' j) (ze' j) := by
    intro j hj
    rw [s2] at hj
    rw [fk, s6 j hj]
    by_cases c : j < cs_t S
    · rw [if_pos c, (a3 j c).1, (a3 j c).2]
      exact ⟨hI.2.1 j (by omega), hr.2.2.1 j (by omega)⟩
    · rw [if_neg c, Nat.zero_add]
      have := a4 (j - cs_t S) (by omega)
      rw [show cs_t S + (j - cs_t S) = j by omega] at this
      exact ⟨this.2, this.1⟩
  have pz : ∀ j, pz_f S' j = if j = 0 then cs_th S' else if j = 1 then cs_re S' else if j = 2 then cs_fi S' else if j = 3 then cs_to S' else cs_cl S' (j - 49) := fun _ => rfl
  refine ⟨⟨_, cr_anew (S := S') (f := pz_f S') ⟨⟨by rw [s2]; exact s1, by omega⟩, ⟨by rw [fk, s3]; exact hB.2.2.2.1, by rw [fk]; exact hI.1.2.1, by omega⟩, by rw [s4]; exact hI.1.2.2.1, by rw [s5]; exact hI.1.2.2.2.1, ⟨rfl, rfl, rfl, rfl⟩, fun k hk => ⟨(hcl k hk).1, ?_⟩⟩⟩, ?_⟩
  · rw [pz, if_neg (by omega), if_neg (by omega), if_neg (by omega), if_neg (by omega), show 49 + k - 49 = k by omega]
  · have fg : cs_g (cs_anew S') = 0 := cs_g_nI (S := cs_anew S') rfl (by omega)
    have fn : cs_n (cs_anew S') = 0 := cs_n_nI (S := cs_anew S') rfl (by omega)
    have ft : cs_t (cs_anew S') = cs_t S' := rfl
    rw [pb_anew hI hr _ (Nat.le_refl _)] at F
    obtain ⟨f7, f6, fj, fb, fr⟩ := F
    obtain ⟨⟨r0, r1, r2, r3, r4, r5, r6, r7, r8, r9⟩, rv, rk, rt⟩ := hr
    have qj : ∀ j, j ≠ 3 → j ≠ 4 → j ≠ 5 → j ≠ 6 → j ≠ 7 → j ≠ 8 → j ≠ 9 → j ≠ 10 → j ≠ 11 → pa_q q2 j = q j := by
      intro j h3 h4 h5 h6 h7 h8 h9 h10 h11
      unfold pa_q
      rw [pk_un h9, pk_un h8, pk_un h6, pk_un h5, pk_un h4, fj j h6 h7 h10 h11, pk_un h3]
    have q3 : pa_q q2 3 = nI (cs_t S + many) := by
      unfold pa_q
      rw [pk_un (by omega), pk_un (by omega), pk_un (by omega), pk_un (by omega), pk_un (by omega), fj 3 (by omega) (by omega) (by omega) (by omega), pk_us, r3, hB.2.1.1, nI_add]
    refine ⟨⟨?_, ?_, ?_, ?_, rfl, rfl, ?_, ?_, rfl, rfl⟩, fun i hi => ⟨?_, ?_⟩, fun k hk => ?_, fun k hk => ?_⟩
    · rw [qj 0 (by omega) (by omega) (by omega) (by omega) (by omega) (by omega) (by omega) (by omega) (by omega), r0]; exact s3.symm
    · rw [qj 1 (by omega) (by omega) (by omega) (by omega) (by omega) (by omega) (by omega) (by omega) (by omega), r1]; exact s4.symm
    · rw [qj 2 (by omega) (by omega) (by omega) (by omega) (by omega) (by omega) (by omega) (by omega) (by omega), r2]; exact s5.symm
    · rw [q3]; exact s1.symm
    · show nI 0 = cs_pl (cs_anew S') (cs_g (cs_anew S'))
      rw [fg]; rfl
    · exact f7
    · show (bt (q2 10) i = true ↔ i < 10 ∧ bt (nI 0) i = true)
      rw [(fb i hi).1, show bt (nI 0) i = false from b_0 i]
      constructor
      · rintro ⟨z1, z2⟩
        obtain ⟨z3, z4⟩ := ((rv i hi).1).mp z1
        obtain ⟨k, hk, e⟩ := (hI.2.2.1.2.2 i hi).mp z4
        exact absurd (show cs_s S k % 10 = i by omega) (z2 k (Nat.zero_le _) hk)
      · rintro ⟨-, z⟩; cases z
    · show (bt (q2 11) i = true ↔ bt (nI 0) (i + 10) = true)
      rw [(fb i hi).2, show bt (nI 0) (i + 10) = false from b_0 _]
      constructor
      · rintro ⟨z1, z2⟩
        have z4 := ((rv i hi).2).mp z1
        rcases Nat.lt_or_ge (i + 10) 32 with w | w
        · obtain ⟨k, hk, e⟩ := (hI.2.2.1.2.2 (i + 10) w).mp z4
          have := cr_sg9 h9 (hI.2.2.1.1 k hk).2.1
          exact absurd (show cs_s S k % 10 = i by omega) (z2 k (Nat.zero_le _) hk)
        · rw [b_big w] at z4; cases z4
      · intro z; cases z
    · rw [ft, fn] at hk
      exact (hcl k hk).2
    · rw [fg] at hk; exact absurd hk (Nat.not_lt_zero k)
theorem pl_reads (hok : cc_ok u H G L) (h : cr S fx) (hr : pr (cs_sp S) S q on ze le re tr) (x y : Int32) : ∃ hf, rd_Good T G L le tr hf ∧ cw_M l mm_L_reads 5 101 [.ref 6, .int x, .int y, .ref 0, .ref 1, .ref 2, .ref 3, .ref 4, .ref 5] (px_h q on ze le re tr (cc_h (nI u) S T H G f (nI 0) L)) (some (.int (nI 1))) hf := by
  have hI := h.1
  have hB := hI.1.1
  have h9 := cr_k9 hI
  obtain ⟨r, hr3, er⟩ := pl_low_nI x (n := 3) (by omega) (by omega)
  have w3 := pl_low_ok l (pd_X q on ze le re tr (nI u) S T H G L f 0) x (n := 3) (by omega) (by omega)
  rw [er] at w3
  have e3 : q 3 = nI (cs_t S) := by rw [hr.1.2.2.2.1]; exact hB.2.1.1
  have e0 : q 0 = nI (cs_k S) := by rw [hr.1.1]; exact hB.2.2.2.1
  have t20 := hB.2.1.2
  have ww := px_wipe (l := l) (u := nI u) (N := S) (T := T) (H := H) (G := G) (f := f) (L := L) (q := q) (on := on) (ze := ze) (le := le) (re := re) (tr := tr) (pl := nI 0)
  by_cases c : cs_t S + (1 + r) ≤ 20
  · obtain ⟨hf, hg, w⟩ := pe_loop (l := l) (q := q) (on := on) (ze := ze) (le := le) (re := re) (tr := tr) (u := nI u) (S := S) (T := T) (H := H) (G := G) (L := L) (h0 := px_h q on ze le re tr (cc_h (nI u) S T H G f (nI 0) L)) (Good := rd_Good T G L le tr) (th := cs_k S) (t0 := cs_t S) (many := 1 + r) (x := x) (y := y) e0 h9 hI.1.2.1 (by omega) e3 t20 (by
      intro f2 len on' ze' cls hE
      obtain ⟨a1, a2, a3, a4, a5, a6⟩ := hE
      obtain ⟨g, Lg, g1, g2, g3⟩ := a6 r (by omega)
      obtain ⟨p1, p2, p3, p4⟩ := pt_end g3
      have esc : cp_sc f2 len 0 = 1 + r := by have := cp_hm_sc f2 len 0 1; omega
      have etl : cp_tl f2 len 0 (nI 0) false (cs_anew S) = cs_anew (rd_tl cls (1 + r) 0 S) := by
        rw [p2, ← rd_tl_anew, Nat.add_comm 1 r, rd_tl_snoc, Nat.zero_add]
      obtain ⟨q2, re2, F, wa⟩ := pl_anew (l := l) (q := upd q 3 (q 3 + nI (1 + r))) (on := on') (ze := ze') (le := le) (re := re) (tr := tr) (x := fun k => cs_s S k % 10) (g := cs_g S) (cr_g9 hI) (fun k hk => pr_x hI hr k hk) (show q 7 = nI (cs_g S) from pr_g7 hI hr)
      obtain ⟨⟨fx', hc'⟩, hr'⟩ := pr_tell h hr c a3 a4 F
      have rd := cc_rd_ok (l := l) (N := S) (T := T) (H := H) (G := G) (f := f2) (L := L) (n := len) (k := u) (by omega) a2 p1 (by rw [p3, hB.2.2.2.1]; exact nI_nlt g1 (by omega)) (by rw [p4, hB.2.1.1, nI_add]; exact nI_nlt c (by omega)) hok hB.2.1.1 (by omega)
      rw [etl] at rd
      obtain ⟨hok', hlen⟩ := cc_ok_rec (N := S) hok
      obtain ⟨hu, hH, hG, -⟩ := hok
      have hok2 := hok'
      obtain ⟨-, hH', hG', -⟩ := hok'
      have eto : cs_to (cs_anew (rd_tl cls (1 + r) 0 S)) = nI (cs_t S + (1 + r)) := (rd_tl_spec cls (1 + r) 0 S hB.2.1.1 (by omega)).1.1
      rw [eto] at rd
      have rdx := px_clsA (q := pa_q q2) (on := on') (ze := ze') (le := le) (re := re2) (tr := tr) rd (cc_rL_len _ _ _ _) hH hG hH' hG'
      refine ⟨_, ⟨cm_ru u + 1, cs_anew (rd_tl cls (1 + r) 0 S), cc_Hr u H L, f2, cc_Lr u H L S, pa_q q2, on', ze', re2, fx', rfl, hok2, cc_rL_len _ _ _ _, hlen, hc', hr'⟩, ?_⟩
      have wx := px_arr (C := cc_h (nI u) S T H G f2 (nI len) L) wa
      have q3 : pa_q q2 3 = nI (cs_t S + (1 + r)) := hr'.1.2.2.2.1.trans eto
      have w288 : cw_W l mm_L_reads 5 101 (px_h q on ze le re tr (cc_h (nI u) S T H G f (nI 0) L)) (some (.int (nI 1))) (px_h (pa_q q2) on' ze' le re2 tr (cc_h (nI (cm_ru u + 1)) (cs_anew (rd_tl cls (1 + r) 0 S)) T (cc_Hr u H L) G f2 (nI 0) (cc_Lr u H L S))) 0 0 288 ((10, .int (nI (1 + r))) :: (9, .int (nI (1 + r))) :: pl_P x y) [.ref 6] (px_h (pa_q q2) on' ze' le re2 tr (cc_h (nI u) S T H G f2 (nI len) L)) := by
        refine cw_callAV (ic := mm_X2_read) (mc' := 5) (ms' := 101) cw_kL_reads (by decide) rfl rfl (Or.inl rfl) (show 0 ≤ 1 by decide) (by decide) rfl (by decide) (show (px_h (pa_q q2) on' ze' le re2 tr (cc_h (nI u) S T H G f2 (nI len) L))[6]? = some _ from rfl) rfl (show 2 < 3 by decide) rdx (by rw [px_len, px_len]; exact Nat.add_le_add_left (cc_lel (cc_rL_len _ _ _ _)) 6) (by rw [px_len, px_len]; exact Nat.add_le_add_left (cc_lel (Nat.le_refl _)) 6) (Nat.le_refl _) (px_wl rfl) (fun v hv => by cases hv) ?_
        exact cw_run cw_kL_reads (by decide) 6 [false] [_] [] (And.intro (rfl) (And.intro (Nat.le_of_ble_eq_true rfl) (And.intro ((fun z => z q3.symm)) (cw_retz cw_kL_reads (by decide) rfl rfl (Or.inr rfl)))))
      exact cw_run cw_kL_reads cw_z 13 [] [_, _] [(_, _)] (And.intro (rfl) (And.intro (Nat.le_of_ble_eq_true rfl) (And.intro (rfl) (And.intro (Nat.le_of_ble_eq_true rfl) (And.intro (wx) (And.intro ((show (px_h (pa_q q2) on' ze' le re2 tr (cc_h (nI u) S T H G f2 (nI len) L)).length ≤ (px_h (upd q 3 (q 3 + nI (1 + r))) on' ze' le re tr (cc_h (nI u) S T H G f2 (nI len) L)).length by rw [px_len, px_len]; exact Nat.le_refl _)) (w288)))))))) (1 + r) 0 f 0 on ze (fun _ => 0) (by omega) ⟨by omega, fun k hk => absurd hk (Nat.not_lt_zero k), fun k _ => ⟨rfl, rfl⟩, fun i hi => absurd hi (Nat.not_lt_zero i), fun _ => rfl, fun d hd => by omega⟩
    refine ⟨hf, hg, cw_enter cw_KL_reads (by decide) (Nat.le_of_ble_eq_true rfl) ?_⟩
    rw [← nI_add 1 r] at w
    exact cw_run cw_kL_reads cw_z 18 [true] [_] [(_, _), (_, _)] (And.intro (ww) (And.intro (Nat.le_refl _) (And.intro (w3) (And.intro (Nat.le_refl _) (And.intro (rfl) (And.intro (Nat.le_of_ble_eq_true rfl) (And.intro ((show q 3 + (nI 1 + nI r) ≤ nI 20 by rw [e3, nI_add, nI_add]; exact nI_le c (by omega))) (w))))))))
  · refine ⟨_, ⟨u, S, H, f, L, q, on, ze, re, fx, rfl, hok, Nat.le_refl _, Nat.le_succ _, h, hr⟩, cw_enter cw_KL_reads (by decide) (Nat.le_of_ble_eq_true rfl) ?_⟩
    exact cw_run cw_kL_reads cw_z 17 [false] [_] [(_, _), (_, _)] (And.intro (ww) (And.intro (Nat.le_refl _) (And.intro (w3) (And.intro (Nat.le_refl _) (And.intro (rfl) (And.intro (Nat.le_of_ble_eq_true rfl) (And.intro ((show ¬ q 3 + (nI 1 + nI r) ≤ nI 20 by rw [e3, nI_add, nI_add]; exact nI_ge (by omega) (by omega))) (cw_retz cw_kL_reads cw_z rfl rfl (Or.inr rfl)))))))))
end PRD
