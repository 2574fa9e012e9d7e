/-! one step, both ways -/
theorem cs_sp_gb (S : cs_S) (L : Int32) : cs_sp (cs_gb S L) = cs_sp S := rfl
theorem cs_sp_give (S : cs_S) (a b c : Int32) : cs_sp (cs_give S a b c) = cs_sp S := by
  unfold cs_give; split <;> rfl
theorem cs_sp_learn (S : cs_S) (c : Int32) : cs_sp (cs_learn S c) = cs_sp S := by
  have h1 : cs_sp (cs_mr S) = cs_sp S := by
    unfold cs_mr
    split
    · rfl
    · unfold cs_fgt
      split <;> rfl
  unfold cs_learn
  split
  · exact h1
  · exact h1
theorem cs_sp_one (S : cs_S) : cs_sp (cs_one S) = cs_sp S := by
  unfold cs_one
  split
  · split
    · split
      · rfl
      · exact cs_sp_give _ _ _ _
    · exact cs_sp_give _ _ _ _
  · unfold cs_meet
    split
    · rfl
    · have h1 : cs_sp (cs_m2 S (cs_fu0 S)) = cs_sp S := cs_sp_learn _ _
      unfold cs_mf
      split
      · exact h1
      · split
        · exact h1
        · exact h1
section CR7
variable {y : Int32} {S : cs_S} {f : Nat → Int32}
theorem crp_s0 (h : crp y S f) (z : Int32) : crp z S (upd f 9 z) := by
  obtain ⟨hI, hF0, hFc, hFt, hFx⟩ := h
  have h9 := cr_k9 hI
  have g9 := cr_g9 hI
  refine ⟨hI, ⟨?_, ?_, ?_, ?_, ?_, ?_, ?_, ?_, ?_, ?_⟩, fun k hk => ?_, fun k hk => ?_, fun x hx9 hxk => ?_⟩
  · rw [pk_un (by omega)]; exact hF0.1
  · rw [pk_un (by omega)]; exact hF0.2.1
  · rw [pk_un (by omega)]; exact hF0.2.2.1
  · rw [pk_un (by omega)]; exact hF0.2.2.2.1
  · rw [pk_un (by omega)]; exact hF0.2.2.2.2.1
  · rw [pk_un (by omega)]; exact hF0.2.2.2.2.2.1
  · rw [pk_un (by omega)]; exact hF0.2.2.2.2.2.2.1
  · rw [pk_un (by omega)]; exact hF0.2.2.2.2.2.2.2.1
  · rw [pk_un (by omega)]; exact hF0.2.2.2.2.2.2.2.2.1
  · exact pk_us
  · rw [pk_un (by omega)]; exact hFc k hk
  · rw [pk_un (by omega), pk_un (by omega), pk_un (by omega), pk_un (by omega)]; exact hFt k hk
  · rw [pk_un (by omega), pk_un (by omega), pk_un (by omega)]; exact hFx x hx9 hxk
theorem crp_sd (h : crp y S f) {v : Int32} (hv : v = nI 0 ∨ v = nI 1 ∨ v = nI 2) : crp y (cs_wsd S v) (upd f 5 v) := by
  obtain ⟨⟨hIs, hIc, hIt, hIr⟩, hF0, hFc, hFt, hFx⟩ := h
  refine ⟨⟨⟨hIs.1, hIs.2.1, hIs.2.2.1, hIs.2.2.2.1, hv⟩, hIc, hIt, hIr⟩, ⟨?_, ?_, ?_, ?_, ?_, ?_, ?_, ?_, ?_, ?_⟩, fun k hk => ?_, fun k hk => ?_, fun x hx9 hxk => ?_⟩
  · rw [pk_un (by omega)]; exact hF0.1
  · rw [pk_un (by omega)]; exact hF0.2.1
  · rw [pk_un (by omega)]; exact hF0.2.2.1
  · rw [pk_un (by omega)]; exact hF0.2.2.2.1
  · rw [pk_un (by omega)]; exact hF0.2.2.2.2.1
  · exact pk_us
  · rw [pk_un (by omega)]; exact hF0.2.2.2.2.2.2.1
  · rw [pk_un (by omega)]; exact hF0.2.2.2.2.2.2.2.1
  · rw [pk_un (by omega)]; exact hF0.2.2.2.2.2.2.2.2.1
  · rw [pk_un (by omega)]; exact hF0.2.2.2.2.2.2.2.2.2
  · rw [pk_un (by omega)]; exact hFc k hk
  · rw [pk_un (by omega), pk_un (by omega), pk_un (by omega), pk_un (by omega)]; exact hFt k hk
  · rw [pk_un (by omega), pk_un (by omega), pk_un (by omega)]; exact hFx x hx9 hxk
theorem crp_sp (h : crp y S f) : cr (cs_wsp S y) f := h
/-- a set of one sign -/
theorem cb_sio_one {o : Int32} {i : Nat} (hi : cr_sg 9 i) (ho : ∀ j, j < 32 → (bt o j = true ↔ j = i)) : ∀ n t, t + n = 10 → 1 ≤ t → t ≤ i % 10 → cb_sio o (nI 1) n t (nI 0) = nI i
  | 0, t, h1, h2, h3 => by omega
  | n + 1, t, h1, h2, h3 => by
    have q := cr_sg9 (Nat.le_refl 9) hi
    have hsg : ∀ j, j < 32 → bt o j = true → cr_sg 9 j := fun j hj hb => by rw [(ho j hj).mp hb]; exact hi
    unfold cb_sio
    have hb : bt (o ||| cb_op o) t = true ↔ t = i % 10 := by
      rw [b_or, Bool.or_eq_true, ho t (by omega), cb_op_bt hsg (by omega), ho (cr_op t) (by unfold cr_op; split <;> omega)]
      unfold cr_op
      rw [if_pos (by omega)]
      rcases hi with e | e
      · constructor
        · rintro (z | z) <;> omega
        · intro z; left; omega
      · constructor
        · rintro (z | z) <;> omega
        · intro z; right; exact ⟨Or.inl ⟨h2, by omega⟩, by omega⟩
    by_cases c : t = i % 10
    · rw [if_pos (hb.mpr c), if_pos (show nI 0 + nI 1 = nI 1 by decide)]
      cases b : bt o t with
      | true =>
        have := (ho t (by omega)).mp b
        rw [if_pos rfl, this]
      | false =>
        rw [if_neg (by decide)]
        have : t ≠ i := fun z => by rw [(ho t (by omega)).mpr z] at b; cases b
        rw [show t + 10 = i by omega]
    · rw [if_neg (fun z => c (hb.mp z))]
      exact cb_sio_one hi ho n (t + 1) (by omega) (by omega) (by omega)
theorem cm_fs_one (f : Nat → Int32) (c : Int32) {i : Nat} (ho : ∀ j, j < 20 → 1 ≤ j → ((bt c j = true ∧ f (19 + j % 10) = -nI 6) ↔ j = i)) : ∀ n s a, s + n = 20 → 1 ≤ s → (i < s → a = nI i) → i < 20 → cm_fs f c n s a = nI i
  | 0, s, a, h1, h2, h3, h4 => h3 (by omega)
  | n + 1, s, a, h1, h2, h3, h4 => by
    unfold cm_fs
    have q := ho s (by omega) h2
    by_cases c2 : s = i
    · rw [if_pos (q.mpr c2)]
      exact cm_fs_one f c ho n (s + 1) _ (by omega) (by omega) (fun _ => by rw [c2]) h4
    · rw [if_neg (fun z => c2 (q.mp z))]
      exact cm_fs_one f c ho n (s + 1) _ (by omega) (by omega) (fun z => h3 (by omega)) h4
/-- the only open sign of a clause -/
theorem cr_one_open (h : crp y S f) {k : Nat} (hk : k < cs_t S + cs_n S) (hp : cr_P S 1 k = true) : ∃ i, cr_sg (cs_k S) i ∧ bt (cs_cl S k) i = true ∧ bt (cs_va S) i = false ∧ bt (cs_va S) (cr_op i) = false ∧ (∀ j, j < 32 → (bt (cs_op S (cs_cl S k)) j = true ↔ j = i)) ∧ ∀ j, j < 32 → bt (cs_cl S k) j = true → j = i ∨ ∃ m, m < cs_g S ∧ cs_s S m = cr_op j := by
  have h9 := cr_k9 h.1
  have hc := h.1.2.1 k hk
  unfold cr_P at hp
  rw [Bool.and_eq_true, Bool.not_eq_true', decide_eq_true_eq] at hp
  obtain ⟨i, hi, hb⟩ := fb_ct_pos.mp (show 0 < fb_ct (bt (cs_op S (cs_cl S k))) 20 by omega)
  have h2 := fb_two.mp (show fb_ct (bt (cs_op S (cs_cl S k))) 20 ≤ 1 by omega)
  obtain ⟨b1, b2, b3⟩ := (cr_op_bt h.1 hc (by omega)).mp hb
  have hs := hc.1 i (by omega) b1
  have huni : ∀ j, j < 32 → (bt (cs_op S (cs_cl S k)) j = true ↔ j = i) := by
    intro j hj
    constructor
    · intro q
      have hj2 := cr_sg9 h9 (hc.1 j hj ((cr_op_bt h.1 hc hj).mp q).1)
      rcases Nat.lt_trichotomy i j with z | z | z
      · exact absurd ⟨hb, q⟩ (h2 i j z (by omega))
      · exact z.symm
      · exact absurd ⟨q, hb⟩ (h2 j i z hi)
    · rintro rfl; exact hb
  refine ⟨i, hs, b1, b2, b3, huni, fun j hj q => ?_⟩
  by_cases e : j = i
  · exact Or.inl e
  · right
    have hsj := hc.1 j hj q
    have v1 : bt (cs_va S) j = false := by
      cases b : bt (cs_va S) j with
      | false => rfl
      | true =>
        have : cs_tr S (cs_cl S k) = true := decide_eq_true (cb_meet.mpr ⟨j, hj, q, b⟩)
        rw [hp.1] at this; cases this
    have v2 : bt (cs_va S) (cr_op j) = true := by
      cases b : bt (cs_va S) (cr_op j) with
      | true => rfl
      | false => exact absurd ((huni j hj).mp ((cr_op_bt h.1 hc hj).mpr ⟨q, v1, b⟩)) e
    have := cr_sg9 h9 (cr_sg_op h9 hsj)
    exact (h.1.2.2.1.2.2 (cr_op j) (by omega)).mp v2
theorem cs_ca_nI {k : Nat} (hk : k < 60) : cs_ca S (nI k) = cs_cl S k := by
  unfold cs_ca
  rw [if_neg (nI_pos (by omega)), if_neg (nI_ge hk (by omega)), nI_clamp (by omega)]
theorem cr_t60 (h : crp y S f) {k : Nat} (hk : k < cs_t S + cs_n S) : k < 60 := by
  have hB := h.1.1.1
  have := hB.2.1.2; have := hB.2.2.1.2; omega
theorem cr_n60 (h : crp y S f) : cs_t S + cs_n S ≤ 60 := by
  have hB := h.1.1.1
  have := hB.2.1.2; have := hB.2.2.1.2; omega
theorem cr_th (h : crp y S f) : f 0 = nI (cs_k S) := by rw [h.2.1.1]; exact h.1.1.1.2.2.2.1
/-- the reference learns what the class learns -/
theorem cr_learns (l : Launch) (M : cm_S) (h : crp y S f) {k : Nat} (hk : k < cs_t S + cs_n S) (hp : cr_P S 0 k = true) (h6 : ¬ cs_pl S (cs_g S) = 0) : ∃ f', crp y (cs_meet S (nI k)) f' ∧ cw_M l mm_X3_learns 0 0 [.ref 0, .int (nI k)] (cm_h (cm_wst M f)) none (cm_h (cm_wst M f')) := by
  have hk60 := cr_t60 h hk
  have hfl := cr_fl_of h.1 hk hp
  obtain ⟨hln, hc⟩ := cr_coo h (cs_g S) (cs_cl S k) (Nat.le_refl _) hfl (fun j h1 h2 => by omega) 11 (by have := cr_g9 h.1; omega)
  have eout : cs_out S (nI k) = cs_coo S (cr_ps S) (cs_g S) (cs_cl S k) := by unfold cs_out; rw [cs_ca_nI hk60]; rfl
  obtain ⟨e1, q, hq, e2⟩ := cr_lbp h hc (cs_g S) 0 0 (by omega) (Nat.zero_le _)
  have em : cs_meet S (nI k) = cs_mf (cs_learn (cs_gb S (nI q)) (cs_coo S (cr_ps S) (cs_g S) (cs_cl S k))) := by
    unfold cs_meet cs_m2 cs_m1
    rw [if_neg h6, eout, e2]
  obtain ⟨h1, eg1⟩ := cr_gb h hq
  rw [e2] at e1
  have hcc := cr_fl_c h.1 hc
  rw [em]
  generalize cs_coo S (cr_ps S) (cs_g S) (cs_cl S k) = c at *
  have hB := cr_B h
  have eg2 : cs_g (cs_gb S (nI q)) = cs_gbn S (nI q) (cs_g S) := cs_g_nI (S := cs_gb S (nI q)) rfl (by have := cs_gbn_le S (nI q) (cs_g S); have := cr_g9 h.1; omega)
  have et1 : cs_t (cs_gb S (nI q)) = cs_t S := rfl
  have en1 : cs_n (cs_gb S (nI q)) = cs_n S := rfl
  have ek1 : cs_k (cs_gb S (nI q)) = cs_k S := rfl
  generalize hS1 : cs_gb S (nI q) = S1 at *
  have hg1 : cs_g S1 = (cm_gb (cm_lb f c (cs_g S) 0 (nI 0)) (cs_g S) 0 0 f).1 := by rw [← e1, eg1, eg2]
  have hf1 : cm_gbk (nI q) (cs_g S) f = cm_gbk (cm_lb f c (cs_g S) 0 (nI 0)) (cs_g S) f := by rw [← e1]
  have hln' : cm_ln f (cs_g S) 11 (f (49 + k)) = some c := by rw [h.2.2.1 k hk]; exact hln
  generalize hf1d : cm_gbk (nI q) (cs_g S) f = f1 at *
  have hn40 : cs_n S1 ≤ 40 := h1.1.1.1.2.2.1.2
  -- room
  obtain ⟨S2, f2, n2, h2, eS2, ef2, en2, en2b, hn2, hroom, et2, eg2b, ek2⟩ : ∃ S2 f2 n2, crp y S2 f2 ∧ cs_mr S1 = S2 ∧ cm_rm f1 (cs_t S) (cs_n S) = f2 ∧ cm_n2 (cs_n S) = n2 ∧ cs_n S2 = n2 ∧ n2 ≤ 39 ∧ (cs_n S = 40 → ∃ k2, k2 < cs_t S + 40 ∧ cm_mk f1 (cs_t S) (cs_n S) (-nI 6) = nI k2) ∧ cs_t S2 = cs_t S ∧ cs_g S2 = cs_g S1 ∧ cs_k S2 = cs_k S := by
    by_cases c40 : cs_n S = 40
    · obtain ⟨j, j1, j2, j3, j4, j5⟩ := cr_room h1 (by omega)
      obtain ⟨d1, d2⟩ := cr_drop h1 (by omega) j1 j2 j5
      rw [et1] at j1 j2 j4 d1
      refine ⟨cs_drop S1 j, cm_dr f1 (cs_t S) 40 j, 39, d1, ?_, ?_, ?_, d2, by omega, fun _ => ⟨j, j2, by rw [c40]; exact j4⟩, ?_, ?_, ?_⟩
      · unfold cs_mr; rw [if_neg (by omega), j3]
      · unfold cm_rm; rw [if_pos c40, c40, j4, nI_clamp (by have := h1.1.1.1.2.1.2; omega)]
      · unfold cm_n2; rw [if_pos c40]
      · exact et1
      · rfl
      · exact ek1
    · refine ⟨S1, f1, cs_n S, h1, ?_, ?_, ?_, en1, by omega, fun z => absurd z c40, et1, rfl, ek1⟩
      · unfold cs_mr; rw [if_pos (by omega)]
      · unfold cm_rm; rw [if_neg c40]
      · unfold cm_n2; rw [if_neg c40]
  have el : cs_learn S1 c = cs_push S2 c := by
    unfold cs_learn
    rw [eS2, if_pos (by omega)]
  rw [el]
  obtain ⟨h3, en3⟩ := cr_push h2 (by omega) (c := c) (by rw [ek2]; exact hcc)
  rw [et2, en2b] at h3
  have eg3 : cs_g (cs_wco (cs_push S2 c) (cs_co S2 + nI 1)) = cs_g S1 := eg2b
  have et3 : cs_t (cs_wco (cs_push S2 c) (cs_co S2 + nI 1)) = cs_t S := et2
  have emf : cs_mf (cs_push S2 c) = if (cs_co S2 + nI 1) - (cs_co S2 + nI 1) / cs_re S2 * cs_re S2 = 0 then cs_gb (cs_wco (cs_push S2 c) (cs_co S2 + nI 1)) (nI 0) else cs_wco (cs_push S2 c) (cs_co S2 + nI 1) := by
    obtain ⟨r, r1, r2, r3⟩ := h2.1.1.2.2.1
    have : ¬ cs_re (cs_push S2 c) ≤ 0 := by
      show ¬ cs_re S2 ≤ 0
      rw [r3]; exact nI_nle (by omega) (by omega)
    unfold cs_mf
    rw [if_neg this]
    rfl
  have e8 : cm_ps f2 (cs_t S) n2 c 8 = cs_co S2 + nI 1 := h3.2.1.2.2.2.2.2.2.2.2.1
  have e1r : cm_ps f2 (cs_t S) n2 c 1 = cs_re S2 := h3.2.1.2.1
  have hB1 := cr_B h1
  have hB2 := cr_B h2
  have hB3 := cr_B h3
  rw [et1, en1] at hB1
  rw [et2, eg2b, en2b] at hB2
  rw [et3, eg3, en3, en2b] at hB3
  have hre : ¬ f2 1 = 0 := by
    obtain ⟨r, r1, r2, r3⟩ := h2.1.1.2.2.1
    rw [h2.2.1.2.1, r3]; exact nI_ne0 (by omega) (by omega)
  have al := cm_learns l (cm_wst M f) (t := cs_t S) (n := cs_n S) (g := cs_g S) (g1 := cs_g S1) (k := k) (N := 11) (c := c) (f1 := f1) hk60 hB (cr_R h) hln' hf1 hg1 hB1 hroom (by rw [ef2, en2]; exact hB2) (by rw [ef2]; exact hre) (by rw [ef2, en2]; exact hB3)
  have elf : cm_lf f (cs_t S) (cs_n S) (cs_g S) c = cm_le (cm_ps f2 (cs_t S) n2 c) (cs_g S1) := by
    unfold cm_lf
    rw [← hf1, ← hg1, ef2, en2]
  refine ⟨cm_le (cm_ps f2 (cs_t S) n2 c) (cs_g S1), ?_, by rw [← elf]; exact al⟩
  rw [emf]
  unfold cm_le
  rw [e8, e1r]
  by_cases d : (cs_co S2 + nI 1) - (cs_co S2 + nI 1) / cs_re S2 * cs_re S2 = 0
  · rw [if_pos d, if_pos d]
    have := (cr_gb h3 (m := 0) (Nat.zero_le _)).1
    rw [eg3] at this
    exact this
  · rw [if_neg d, if_neg d]
    exact h3
theorem cr_step (l : Launch) (M : cm_S) {S : cs_S} {f : Nat → Int32} (h : cr S f) : ∃ f', cr (cs_stp1 S) f' ∧ cw_M l mm_X3_goes 0 0 [.ref 0] (cm_h (cm_wst M f)) none (cm_h (cm_wst M f')) := by
  have e9 : f 9 = cs_sp S := h.2.1.2.2.2.2.2.2.2.2.2
  have h0 : crp (cs_sp S + nI 1) S (cm_s0 f) := by
    unfold cm_s0
    rw [e9]
    exact crp_s0 h _
  have fin : ∀ f', crp (cs_sp S + nI 1) (cs_one S) f' → cr (cs_stp1 S) f' := fun f' q => by
    unfold cs_stp1
    rw [cs_sp_one]
    exact crp_sp q
  have hB := cr_B h0
  have h9 := cr_k9 h0.1
  have n60 := cr_n60 h0
  have lt0 : (-nI 6 : Int32) < 0 := by decide
  rcases cr_fu0 h0 with ⟨c1, c2⟩ | ⟨k, hk, hp, c1, c2⟩
  · rcases cr_fu1 h0 with ⟨d1, d2⟩ | ⟨k, hk, hp, d1, d2⟩
    · rcases cr_low h0 with ⟨x1, x2⟩ | ⟨x, hx1, hx2, x1, x3, x2⟩
      · refine ⟨_, fin _ ?_, cm_goes_fits l (cm_wst M f) hB (cr_th h0) h9 c2 d2 x2⟩
        have : cs_one S = cs_wsd S (nI 1) := by
          unfold cs_one
          rw [c1, if_pos lt0, d1, if_pos lt0, x1, if_pos (by decide)]
        rw [this]
        exact crp_sd h0 (Or.inr (Or.inl rfl))
      · -- a thing is decided
        have hsx : cr_sg (cs_k S) x := Or.inl ⟨hx1, hx2⟩
        have hfi := h0.1.1.2.2.2.1
        obtain ⟨i, hi, him, hiw, his⟩ : ∃ i, cr_sg (cs_k S) i ∧ i % 10 = x ∧ cb_wa i = cs_fi S ∧ (if cs_fi S = nI 1 then nI x else cb_opp (nI x)) = nI i := by
          rcases hfi with e | e
          · refine ⟨x + 10, Or.inr ⟨by omega, by omega⟩, by omega, ?_, ?_⟩
            · unfold cb_wa; rw [if_neg (by omega), e]
            · rw [e, if_neg (by decide), cb_opp_nI (by omega)]
              unfold cr_op; rw [if_pos (by omega)]
          · refine ⟨x, hsx, by omega, ?_, ?_⟩
            · unfold cb_wa; rw [if_pos (by omega), e]
            · rw [e, if_pos rfl]
        obtain ⟨v1, v2⟩ := (cr_open_thing h0 hx1 hx2).2 x3 i hi him
        have g8 := (cr_g8 h0.1 hi v1 v2).1
        have hpl := cr_pl h0.1
        have hpv := cr_pv_le h0.1
        have gi := cr_give h0 (i := i) (m := cs_pv S (cs_g S) + 1) (r := -nI 6) hi v1 v2 (by omega) (Or.inr ⟨rfl, rfl⟩)
        have ag := cm_goes_decide l (cm_wst M f) hB (cr_th h0) h9 c2 d2 x2 (by omega) g8
        have e6 : cm_s0 f 6 + nI 1 = nI (cs_pv S (cs_g S) + 1) := by rw [h0.2.1.2.2.2.2.2.2.1, hpl, nI_add]
        have e2 : cm_s0 f 2 = cb_wa i := by rw [h0.2.1.2.2.1, hiw]
        have ec : cs_one S = cs_give S (nI i) (nI (cs_pv S (cs_g S) + 1)) (-nI 6) := by
          unfold cs_one
          rw [c1, if_pos lt0, d1, if_pos lt0, x1, if_neg (nI_nle (by omega) (by omega)), his, hpl, nI_add]
        rw [him] at gi
        refine ⟨_, fin _ (by rw [ec]; exact gi), ?_⟩
        rw [← e6, ← e2]
        exact ag
    · -- a clause tells
      obtain ⟨i, hi, b1, v1, v2, ho, hr⟩ := cr_one_open h0 hk hp
      have hk60 := cr_t60 h0 hk
      have hi9 := cr_sg9 h9 hi
      have g8 := (cr_g8 h0.1 hi v1 v2).1
      have hpl := cr_pl h0.1
      have hpv := cr_pv_le h0.1
      have hc := h0.1.2.1 k hk
      have gi := cr_give h0 (i := i) (m := cs_pv S (cs_g S)) (r := nI k) hi v1 v2 (by omega) (Or.inl ⟨rfl, k, hk, rfl, b1, hr⟩)
      have efs : cm_fs (cm_s0 f) (cm_s0 f (49 + k)) 19 1 (-nI 6) = nI i := by
        refine cm_fs_one _ _ (i := i) (fun j hj h1 => ?_) 19 1 _ (by omega) (by omega) (fun z => by omega) (by omega)
        rw [h0.2.2.1 k hk, ← ho j (by omega), cr_op_bt h0.1 hc (by omega)]
        constructor
        · rintro ⟨a, b⟩; exact ⟨a, (cr_val h0 (hc.1 j (by omega) a)).2.mp b⟩
        · rintro ⟨a, b⟩; exact ⟨a, (cr_val h0 (hc.1 j (by omega) a)).2.mpr b⟩
      have af := cm_follow l (cm_wst M (cm_s0 f)) (k := k) (g := cs_g S) (s0 := i) hk60 (by omega) (by rw [show cm_st (cm_wst M (cm_s0 f)) 7 = cm_s0 f 7 from rfl]; exact hB.2.2.1.1) g8 efs
      have ag := cm_goes_follow l (cm_wst M f) hB c2 d2 hk60 af
      have e6 : upd (cm_s0 f) 6 (nI (cs_pv S (cs_g S))) = cm_s0 f := by
        funext j
        unfold upd
        by_cases c : j = 6
        · rw [if_pos c, c, h0.2.1.2.2.2.2.2.2.1, hpl]
        · rw [if_neg c]
      rw [e6] at gi
      have ec : cs_one S = cs_give S (nI i) (nI (cs_pv S (cs_g S))) (nI k) := by
        unfold cs_one
        rw [c1, if_pos lt0, d1, if_neg (nI_pos (by omega)), cs_ca_nI hk60, hpl, cb_sio_one (cr_sg_mono h9 hi) ho 9 1 (by omega) (by omega) (by omega)]
      exact ⟨_, fin _ (by rw [ec]; exact gi), ag⟩
  · have hk60 := cr_t60 h0 hk
    have ec : cs_one S = cs_meet S (nI k) := by
      unfold cs_one
      rw [c1, if_neg (nI_pos (by omega))]
    have e6 : cm_s0 f 6 = cs_pl S (cs_g S) := h0.2.1.2.2.2.2.2.2.1
    by_cases z : cs_pl S (cs_g S) = 0
    · refine ⟨_, fin _ ?_, cm_goes_never l (cm_wst M f) hB c2 hk60 (show cm_s0 f 6 = 0 by rw [e6]; exact z)⟩
      have : cs_meet S (nI k) = cs_wsd S (nI 2) := by unfold cs_meet; rw [if_pos z]
      rw [ec, this]
      exact crp_sd h0 (Or.inr (Or.inr rfl))
    · obtain ⟨f', q1, q2⟩ := cr_learns l M h0 hk hp z
      exact ⟨f', fin _ (by rw [ec]; exact q1), cm_goes_learn l (cm_wst M f) hB c2 hk60 (show ¬ cm_s0 f 6 = 0 by rw [e6]; exact z) q2⟩
/-- many steps, both ways -/
theorem cr_goOn (l : Launch) (M : cm_S) {S : cs_S} {f : Nat → Int32} (h : cr S f) {N : Nat} (hN : N < 2 ^ 31) : ∃ f', cr (cs_runs N S) f' ∧ cw_M l mm_X3_goOn 0 0 [.ref 0, .int (nI N)] (cm_h (cm_wst M f)) none (cm_h (cm_wst M f')) :=
  cm_goOn l M cr (fun S f q => by rw [q.2.1.2.2.2.2.2.1]) (fun S f q _ => cr_step l M q) hN h
end CR7
