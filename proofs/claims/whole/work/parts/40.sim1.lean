/-! what a call answers, and that the relation holds again: counts, the trail, places, steps, ways back, undo, saving -/
theorem cb_wi_nat {x : Int32} {a b : Nat} (ha : a < 2 ^ 31) (hb : b < 2 ^ 31) (h : cb_wi x (nI a) (nI b) = true) : ∃ k, a ≤ k ∧ k ≤ b ∧ x = nI k := by
  obtain ⟨h1, h2⟩ := cb_wi_t h
  have h0 : ¬ x < 0 := fun q => h1 (by
    rw [Int32.lt_iff_toInt_lt] at q ⊢
    rw [nI_toInt ha]
    have e : (0 : Int32).toInt = 0 := rfl
    omega)
  obtain ⟨k, hk, rfl⟩ := nI_of h0
  have h3 := (nI_leI hk hb).mp h2
  exact ⟨k, Nat.not_lt.mp (fun q => h1 (nI_lt q ha)), h3, rfl⟩
theorem cb_nI_wi {k a b : Nat} (ha : a ≤ k) (hb : k ≤ b) (h : b < 2 ^ 31) : cb_wi (nI k) (nI a) (nI b) = true := decide_eq_true ⟨nI_nlt ha (by omega), nI_nlt hb h⟩
theorem cb_sub1 : ∀ t, t ≤ 100 → (nI t - nI 1).toInt = (t : Int) - 1 := by decide +kernel
theorem cb_bewi {x : Int32} {t : Nat} (h : t ≤ 100) : cb_be x (nI t) = cb_wi x (nI 0) (nI t - nI 1) := by
  refine decide_eq_decide.mpr ?_
  have e := cb_sub1 t h
  have e2 := nI_toInt (n := t) (by omega)
  have e3 : (nI 0) = (0 : Int32) := rfl
  rw [e3, Int32.lt_iff_toInt_lt, Int32.lt_iff_toInt_lt, Int32.lt_iff_toInt_lt, e, e2]
  omega
theorem cb_be_nat {x : Int32} {t : Nat} (ht : t ≤ 100) (h : cb_be x (nI t) = true) : ∃ k, k < t ∧ x = nI k := by
  obtain ⟨h1, h2⟩ := of_decide_eq_true h
  obtain ⟨k, hk, rfl⟩ := nI_of h1
  exact ⟨k, (nI_ltI hk (by omega)).mp h2, rfl⟩
theorem cb_mod10 : ∀ s, s < 20 → cb_th (nI s) = nI (s % 10) := by decide +kernel
section SIM
variable {l : Launch} {u : Nat} {N T : cs_S} {H G : Nat → Option Nat} {f : Nat → Int32} {n : Nat} {L : List cs_S} {M : cm_S}
/-- one call on both sides: the same answer, and the relation again -/
def cc_G (l : Launch) (mc mm : cw_I) (av : List Value) (u : Nat) (N T : cs_S) (H G : Nat → Option Nat) (f : Nat → Int32) (n : Nat) (L : List cs_S) (M : cm_S) : Prop := ∃ (r : Int32) (u' : Nat) (N' T' : cs_S) (H' G' : Nat → Option Nat) (f' : Nat → Int32) (n' : Nat) (L' : List cs_S) (M' : cm_S), cw_M l mc 5 101 (.ref 0 :: av) (cc_h (nI u) N T H G f (nI n) L) (some (.int r)) (cc_h (nI u') N' T' H' G' f' (nI n') L') ∧ cw_M l mm 0 0 (.ref 0 :: av) (cm_h M) (some (.int r)) (cm_h M') ∧ cc_R u' N' H' G' f' n' L' M' ∧ L.length ≤ L'.length
theorem cc_same {mc mm : cw_I} {av : List Value} {r : Int32} (hR : cc_R u N H G f n L M) (hc : cw_M l mc 5 101 (.ref 0 :: av) (cc_h (nI u) N T H G f (nI n) L) (some (.int r)) (cc_h (nI u) N T H G f (nI n) L)) (hm : cw_M l mm 0 0 (.ref 0 :: av) (cm_h M) (some (.int r)) (cm_h M)) : cc_G l mc mm av u N T H G f n L M :=
  ⟨r, u, N, T, H, G, f, n, L, M, hc, hm, hR, Nat.le_refl _⟩
theorem cc_Lr_len (u : Nat) (H : Nat → Option Nat) (L : List cs_S) (N : cs_S) : L.length ≤ (cc_Lr u H L N).length := cc_rL_len _ _ _ _
theorem cR_u (hR : cc_R u N H G f n L M) : M.2.2.2.1 = nI u := hR.2.2.1
theorem cR_6 (hR : cc_R u N H G f n L M) : u ≤ 6 := hR.1.1
theorem cR_B (hR : cc_R u N H G f n L M) : cs_Bd N := hR.2.1.1.1.1
theorem cR_3 (hR : cc_R u N H G f n L M) : cm_st M 3 = nI (cs_t N) := hR.2.1.2.1.2.2.2.1.trans (cR_B hR).2.1.1
theorem cR_4 (hR : cc_R u N H G f n L M) : cm_st M 4 = nI (cs_n N) := hR.2.1.2.1.2.2.2.2.1.trans (cR_B hR).2.2.1.1
theorem cR_7 (hR : cc_R u N H G f n L M) : cm_st M 7 = nI (cs_g N) := hR.2.1.2.1.2.2.2.2.2.2.2.1.trans (cR_B hR).1.1
theorem cR_0 (hR : cc_R u N H G f n L M) : cm_st M 0 = nI (cs_k N) := hR.2.1.2.1.1.trans (cR_B hR).2.2.2.1
theorem cR_th (hR : cc_R u N H G f n L M) : cs_th N = nI (cs_k N) := (cR_B hR).2.2.2.1
theorem cR_k9 (hR : cc_R u N H G f n L M) : cs_k N ≤ 9 := (cR_B hR).2.2.2.2
theorem cR_t20 (hR : cc_R u N H G f n L M) : cs_t N ≤ 20 := (cR_B hR).2.1.2
theorem cR_g9 (hR : cc_R u N H G f n L M) : cs_g N ≤ 9 := (cR_B hR).1.2
theorem cR_pn (hR : cc_R u N H G f n L M) : M.2.2.2.2.2.2.2.1 = nI n := hR.2.2.2.2.2.2
theorem cR_n60 (hR : cc_R u N H G f n L M) : n ≤ 60 := hR.2.2.2.2.2.1.1
theorem cs_count (hR : cc_R u N H G f n L M) (x : Int32) : cc_G l mm_X2_count mm_X3_count [.int x] u N T H G f n L M := by
  rcases cb_sw x 11 (by omega) with ⟨j, hj, rfl⟩ | hx
  · have F := hR.2.1.2.1
    have e : cm_cnt M j = cc_cnt (nI u) N (nI n) j := by
      match j, hj with
      | 0, _ => exact F.2.2.2.1
      | 1, _ => exact F.2.2.2.2.1
      | 2, _ => exact F.2.2.2.2.2.1
      | 3, _ => exact F.2.2.2.2.2.2.1
      | 4, _ => exact F.2.2.2.2.2.2.2.1
      | 5, _ => exact F.2.2.2.2.2.2.2.2.1
      | 6, _ => exact F.2.2.2.2.2.2.2.2.2
      | 7, _ => exact F.1
      | 8, _ => exact F.2.1
      | 9, _ => exact F.2.2.1
      | 10, _ => exact cR_pn hR
      | 11, _ => exact cR_u hR
      | j + 12, h => exact absurd h (by omega)
    exact cc_same hR (cc_count (cR_B hR) j hj) (by rw [← e]; exact cm_count l M j hj)
  · exact cc_same hR (cc_count_bad hx) (cm_count_bad l M hx)
theorem cs_trail (hR : cc_R u N H G f n L M) (x : Int32) : cc_G l mm_X2_trail mm_X3_trail [.int x] u N T H G f n L M := by
  have e := cb_bewi (x := x) (t := cs_g N) (by have := cR_g9 hR; omega)
  have eg := (cR_B hR).1.1
  cases hb : cb_be x (nI (cs_g N)) with
  | false => exact cc_same hR (cc_trail_no (by rw [eg]; exact hb)) (cm_trail_no l M (by rw [cR_7 hR, ← e]; exact hb))
  | true =>
    have g9 := cR_g9 hR
    obtain ⟨k, hk, rfl⟩ := cb_be_nat (by omega) hb
    have hs := hR.2.1.1.2.2.1.1 k hk
    have s9 := cr_sg9 (cR_k9 hR) hs.2.1
    have hc := cc_trail_ok (l := l) (u := nI u) (N := N) (T := T) (H := H) (G := G) (f := f) (pl := nI n) (L := L) (k := k) (by rw [eg]; exact hb) (by omega)
    have hm := cm_trail_ok l M (k := k) (by rw [cR_7 hR, ← e]; exact hb) (by omega)
    rw [hs.1, show (if nI (cs_s N k) < nI 10 then nI (cs_s N k) else nI (cs_s N k) - nI 10) = nI (cs_s N k % 10) from cb_mod10 _ (by omega), ← (hR.2.1.2.2.2.1 k hk).1] at hc
    exact cc_same hR hc hm
/-- a thing's place -/
theorem cr_pof {S : cs_S} (h : cr_I S) {x : Nat} (hx : x < 10) : ∀ n k, k + n = cs_g S → (cs_pof S (nI x) n k = -nI 6 ∧ ∀ j, k ≤ j → j < cs_g S → cs_s S j % 10 ≠ x) ∨ ∃ p, k ≤ p ∧ p < cs_g S ∧ cs_s S p % 10 = x ∧ cs_pof S (nI x) n k = nI p
  | 0, k, e => Or.inl ⟨rfl, fun j h1 h2 => absurd h2 (by omega)⟩
  | n + 1, k, e => by
    have hs := h.2.2.1.1 k (by omega)
    have s9 := cr_sg9 (cr_k9 h) hs.2.1
    have et : (if cs_sg S k < nI 10 then cs_sg S k else cs_sg S k - nI 10) = nI (cs_s S k % 10) := by rw [hs.1]; exact cb_mod10 _ (by omega)
    have ep : cs_pof S (nI x) (n + 1) k = if nI (cs_s S k % 10) = nI x then nI k else cs_pof S (nI x) n (k + 1) := by
      conv => lhs; unfold cs_pof
      rw [et]
    rw [ep]
    by_cases c : cs_s S k % 10 = x
    · right
      exact ⟨k, Nat.le_refl _, by omega, c, by rw [if_pos (by rw [c])]⟩
    · rw [if_neg (fun q => c ((nI_eq (by omega) (by omega)).mp q))]
      rcases cr_pof h hx n (k + 1) (by omega) with ⟨a, b⟩ | ⟨p, a, b, c2, d⟩
      · left
        refine ⟨a, fun j h1 h2 => ?_⟩
        by_cases q : j = k
        · rw [q]; exact c
        · exact b j (by omega) h2
      · exact Or.inr ⟨p, by omega, b, c2, d⟩
theorem cm_pf_no {f : Nat → Int32} {x : Int32} : ∀ n k a, (∀ j, k ≤ j → j < k + n → f (10 + j) ≠ x) → cm_pf f x n k a = a
  | 0, _, _, _ => rfl
  | n + 1, k, a, h => by
    unfold cm_pf
    rw [if_neg (h k (Nat.le_refl _) (by omega))]
    exact cm_pf_no n (k + 1) a (fun j h1 h2 => h j (by omega) (by omega))
theorem cm_pf_at {f : Nat → Int32} {x : Int32} {p : Nat} (hp : f (10 + p) = x) : ∀ n k a, k ≤ p → p < k + n → (∀ j, k ≤ j → j < k + n → f (10 + j) = x → j = p) → cm_pf f x n k a = nI p
  | 0, _, _, h1, h2, _ => absurd h2 (by omega)
  | n + 1, k, a, h1, h2, hu => by
    unfold cm_pf
    by_cases c : k = p
    · subst c
      rw [if_pos hp]
      exact cm_pf_no n (k + 1) _ (fun j h3 h4 q => absurd (hu j (by omega) (by omega) q) (by omega))
    · exact cm_pf_at hp n (k + 1) _ (by omega) (by omega) (fun j h3 h4 q => hu j (by omega) (by omega) q)
theorem cs_of (hR : cc_R u N H G f n L M) (x y : Int32) : cc_G l mm_X2_of mm_X3_of [.int x, .int y] u N T H G f n L M := by
  have e0 := cR_0 hR
  have et := cR_th hR
  have k9 := cR_k9 hR
  have g9 := cR_g9 hR
  have hB := cR_B hR
  cases hx : cb_wi x (nI 1) (nI (cs_k N)) with
  | false => exact cc_same hR (cc_of_no (by rw [et]; exact hx)) (cm_of_no l M (by rw [e0]; exact hx))
  | true =>
    obtain ⟨k, hk1, hk, rfl⟩ := cb_wi_nat (by omega) (by omega) hx
    have hxc : cb_wi (nI k) (nI 1) (cs_th N) = true := by rw [et]; exact hx
    have hxm : cb_wi (nI k) (nI 1) (cm_st M 0) = true := by rw [e0]; exact hx
    rcases cb_sw y 3 (by omega) with ⟨j, hj, rfl⟩ | hy
    · have hI := hR.2.1.1
      have hF := hR.2.1.2
      have hm := cm_of_ok l M hxm (by omega) (cR_7 hR) g9 j hj
      rcases cr_pof hI (x := k) (by omega) (cs_g N) 0 (Nat.zero_add _) with ⟨a, b⟩ | ⟨p, _, hp, hpx, a⟩
      · have hc := cc_of_none (l := l) (u := nI u) (T := T) (H := H) (G := G) (f := f) (pl := nI n) (L := L) hB hxc hj a
        have v := hF.2.2.2 k (by omega) (fun q hq => b q (Nat.zero_le _) hq)
        have e : cm_ofa (cm_st M) k (cs_g N) j = -nI 6 := by
          match j, hj with
          | 0, _ => exact v.1
          | 1, _ => exact v.2.1
          | 2, _ => exact v.2.2
          | 3, _ =>
            refine cm_pf_no _ _ _ (fun q _ hq z => ?_)
            rw [(hF.2.2.1 q (by omega)).1] at z
            exact b q (Nat.zero_le _) (by omega) ((nI_eq (by omega) (by omega)).mp z)
          | j + 4, h => exact absurd h (by omega)
        rw [e] at hm
        exact cc_same hR hc hm
      · have hc := cc_of_ok (l := l) (u := nI u) (T := T) (H := H) (G := G) (f := f) (pl := nI n) (L := L) hB hxc a (by omega) j hj
        have v := hF.2.2.1 p hp
        rw [hpx] at v
        have hs := hI.2.2.1.1 p hp
        have s9 := cr_sg9 k9 hs.2.1
        have e : cm_ofa (cm_st M) k (cs_g N) j = cc_ofa N (nI k) p j := by
          match j, hj with
          | 0, _ =>
            refine v.2.1.trans ?_
            show cb_wa (cs_s N p) = if cs_sg N p = nI k then nI 1 else nI 0
            rw [hs.1]
            unfold cb_wa
            by_cases c : cs_s N p < 10
            · rw [if_pos c, if_pos (congrArg nI (by omega))]
            · rw [if_neg c, if_neg (fun q => by have := (nI_eq (by omega) (by omega)).mp q; omega)]
          | 1, _ => exact v.2.2.1
          | 2, _ => exact v.2.2.2
          | 3, _ =>
            refine cm_pf_at v.1 _ _ _ (Nat.zero_le _) (by omega) (fun q _ hq z => ?_)
            rw [(hF.2.2.1 q (by omega)).1] at z
            exact cr_uni hI (by omega) hp (((nI_eq (by omega) (by omega)).mp z).trans hpx.symm)
          | j + 4, h => exact absurd h (by omega)
        rw [e] at hm
        exact cc_same hR hc hm
    · refine cc_same hR (cc_of_bad hxc ?_) (cm_of_bad l M hxm hy)
      have e3 : (nI 3).toInt = 3 := rfl
      have e4 : (0 : Int32).toInt = 0 := rfl
      rw [Int32.lt_iff_toInt_lt, Int32.lt_iff_toInt_lt, e3, e4]
      exact hy
theorem cs_step (hR : cc_R u N H G f n L M) (x : Int32) : cc_G l mm_X2_step mm_X3_step [.int x] u N T H G f n L M := by
  cases hx : cb_wi x (nI 1) (nI 500) with
  | false => exact cc_same hR (cc_step_no hx) (cm_step_no l M hx)
  | true =>
    obtain ⟨k, hk1, hk, rfl⟩ := cb_wi_nat (by omega) (by omega) hx
    obtain ⟨f', h', hg⟩ := cr_goOn l (cm_rec M u) hR.2.1 (N := k) (by omega)
    have hc := cc_step_ok (l := l) (T := T) (f := f) (pl := nI n) hx (by omega) (cR_B hR) hR.1
    have hm := cm_step_ok l M hx (cR_u hR) (cR_6 hR) hg
    rw [show f' 5 = cs_sd (cs_runs k N) from h'.2.1.2.2.2.2.2.1] at hm
    exact ⟨_, _, _, _, _, _, _, _, _, _, hc, hm, cc_R_st (cc_R_rec hR) h', cc_Lr_len _ _ _ _⟩
theorem cs_back (hR : cc_R u N H G f n L M) (x : Int32) : cc_G l mm_X2_back mm_X3_back [.int x] u N T H G f n L M := by
  have hI := hR.2.1.1
  have hF := hR.2.1.2.1
  have hB := cR_B hR
  have ep := cr_pl hI
  have e6 : cm_st M 6 = cs_pl N (cs_g N) := hF.2.2.2.2.2.2.1
  have e5 : cm_st M 5 = cs_sd N := hF.2.2.2.2.2.1
  cases hx : cb_wi x (nI 0) (cs_pl N (cs_g N)) with
  | false => exact cc_same hR (cc_back_no hB hx) (cm_back_no l M (by rw [e6]; exact hx))
  | true =>
    by_cases h5 : cs_sd N = nI 2
    · exact cc_same hR (cc_back_never hB hx h5) (cm_back_never l M (by rw [e6]; exact hx) (by rw [e5]; exact h5))
    · have hx0 := hx
      rw [ep] at hx0
      have pl9 := cr_pv_le hI
      have g9 := cR_g9 hR
      obtain ⟨m, _, hm, rfl⟩ := cb_wi_nat (by omega) (by omega) hx0
      have h' := crp_sd (cr_gb hR.2.1 hm).1 (v := nI 0) (Or.inl rfl)
      have hc := cc_back_ok (l := l) (T := T) (f := f) (pl := nI n) hB hx h5 hR.1
      have hm := cm_back_ok l M (by rw [e6]; exact hx) (by rw [e5]; exact h5) (cr_B hR.2.1) (cR_u hR) (cR_6 hR)
      rw [show upd (cm_gbk (nI m) (cs_g N) (cm_st M)) 5 (nI 0) 7 = cs_gi (cs_gb N (nI m)) from h'.2.1.2.2.2.2.2.2.2.1] at hm
      exact ⟨_, _, _, _, _, _, _, _, _, _, hc, hm, cc_R_st (cc_R_rec hR) h', cc_Lr_len _ _ _ _⟩
theorem cs_wipe (hR : cc_R u N H G f n L M) : cc_G l mm_X2_wipe mm_X3_wipe [] u N T H G f n L M := by
  have hm := cm_wipe l M
  rw [cR_pn hR] at hm
  exact ⟨_, _, _, _, _, _, _, 0, _, _, cc_wipe, hm, ⟨hR.1, hR.2.1, hR.2.2.1, hR.2.2.2.1, hR.2.2.2.2.1, ⟨Nat.zero_le _, fun k hk => absurd hk (Nat.not_lt_zero k)⟩, rfl⟩, Nat.le_refl _⟩
theorem cs_undo (hR : cc_R u N H G f n L M) : cc_G l mm_X2_undo mm_X3_undo [] u N T H G f n L M := by
  match u, hR with
  | 0, hR => exact cc_same hR cc_undo_no (cm_undo_no l M (cR_u hR))
  | v + 1, hR =>
    have h6 := cR_6 hR
    obtain ⟨j, S, q1, q2, q3⟩ := hR.2.2.2.1 v (Nat.lt_succ_self _)
    have hc := cc_undo_ok (l := l) (N := N) (T := T) (G := G) (f := f) (pl := nI n) (n := v) (by omega) q1 q2
    have hm := cm_undo_ok l M (cR_u hR) (by omega)
    obtain ⟨hok, hN, hrc, hRh, hRs, hRp, hpn⟩ := hR
    obtain ⟨_, hH, hG, hun, hi, hg, hd⟩ := hok
    refine ⟨_, _, _, _, _, _, _, _, _, _, hc, hm, ⟨⟨by omega, hH, hG, fun i hi => hun i (by omega), hi, hg, hd⟩, cr_copy (cr_congr q3 (fun k hk => ?_)), rfl, fun i hi => hRh i (by omega), hRs, hRp, hpn⟩, Nat.le_refl _⟩
    show cm_cp M.2.2.1 M.1 (v * 109) 0 109 k = M.2.2.1 (v * 109 + k)
    unfold cm_cp
    rw [if_pos (by omega)]
    rfl
theorem cs_save (hR : cc_R u N H G f n L M) (x : Int32) : cc_G l mm_X2_save mm_X3_save [.int x] u N T H G f n L M := by
  cases hx : cb_wi x (nI 0) (nI 1) with
  | false => exact cc_same hR (cc_save_no hx) (cm_save_no l M hx)
  | true =>
    obtain ⟨s, _, hs, rfl⟩ := cb_wi_nat (by omega) (by omega) hx
    have hc := cc_save_ok (l := l) (N := N) (T := T) (f := f) (pl := nI n) (u := nI u) (s := s) (by omega) hR.1
    have hm := cm_save_ok l M hx (by omega)
    rw [show cm_st M 3 = cs_to N from hR.2.1.2.1.2.2.2.1] at hm
    refine ⟨_, _, _, _, _, _, _, _, _, _, hc, hm, ?_, cc_rL_len _ _ _ _⟩
    obtain ⟨hok, hN, hrc, hRh, hRs, hRp, hpn⟩ := hR
    obtain ⟨hu, hH, hG, hun, hi, hg, hd⟩ := hok
    have c1 : ∀ k, k < 109 → cm_cp M.1 M.2.2.2.2.1 0 (109 * s) 109 (109 * s + k) = cm_st M k := fun k hk => by
      unfold cm_cp
      rw [if_pos ⟨by omega, by omega⟩, show 0 + (109 * s + k - 109 * s) = k by omega]
    have c2 : ∀ s' k, s' ≠ s → k < 109 → cm_cp M.1 M.2.2.2.2.1 0 (109 * s) 109 (109 * s' + k) = M.2.2.2.2.1 (109 * s' + k) := fun s' k h1 hk => by
      unfold cm_cp
      rw [if_neg (fun q => by have := q.1; have := q.2; omega)]
    unfold cc_rHf cc_rL
    cases hv : G s with
    | some j =>
      have hjl := hG s j hv
      have hset : ∀ j', j' ≠ j → (L.set j (cs_copy (L.getD j cs_z) N))[j']? = L[j']? := fun j' q => List.getElem?_set_ne (fun z => q z.symm)
      refine ⟨⟨hu, fun i j' q => ?_, fun i j' q => ?_, hun, hi, hg, hd⟩, hN, hrc, fun i hiv => ?_, fun s' hs' => ?_, hRp, hpn⟩
      · rw [List.length_set]; exact hH i j' q
      · rw [List.length_set]; exact hG i j' q
      · obtain ⟨j', S, q1, q2, q3⟩ := hRh i hiv
        exact ⟨j', S, q1, by rw [hset j' (fun z => hd i s j (by rw [← z]; exact q1) hv)]; exact q2, q3⟩
      · by_cases e : s' = s
        · subst e
          exact Or.inr ⟨j, _, hv, List.getElem?_set_self hjl, cr_copy (cr_congr hN (fun k hk => c1 k hk)), if_pos rfl⟩
        · rcases hRs s' hs' with ⟨q, q0⟩ | ⟨j', S, q1, q2, q3, q4⟩
          · exact Or.inl ⟨q, (pk_un e).trans q0⟩
          · exact Or.inr ⟨j', S, q1, by rw [hset j' (fun z => e (hg s' s j (by rw [← z]; exact q1) hv))]; exact q2, cr_congr q3 (fun k hk => c2 s' k e hk), (pk_un e).trans q4⟩
    | none =>
      have happ : ∀ j', j' < L.length → (L ++ [cs_copy cs_z N])[j']? = L[j']? := fun j' q => List.getElem?_append_left q
      have hup : ∀ i, i ≠ s → va_up G s (some L.length) i = G i := fun i q => if_neg q
      have hupv : va_up G s (some L.length) s = some L.length := if_pos rfl
      dsimp only
      refine ⟨⟨hu, fun i j' q => ?_, fun i j' q => ?_, hun, hi, fun i k j' q1 q2 => ?_, fun i k j' q1 q2 => ?_⟩, hN, hrc, fun i hiv => ?_, fun s' hs' => ?_, hRp, hpn⟩
      · rw [List.length_append]
        exact Nat.lt_of_lt_of_le (hH i j' q) (Nat.le_add_right _ _)
      · rw [List.length_append]
        by_cases e : i = s
        · rw [e, hupv] at q; cases q; exact Nat.lt_succ_self _
        · rw [hup i e] at q
          exact Nat.lt_of_lt_of_le (hG i j' q) (Nat.le_add_right _ _)
      · by_cases e1 : i = s
        · by_cases e2 : k = s
          · rw [e1, e2]
          · rw [e1, hupv] at q1
            rw [hup k e2] at q2
            cases q1
            exact absurd (hG k _ q2) (Nat.lt_irrefl _)
        · by_cases e2 : k = s
          · rw [e2, hupv] at q2
            rw [hup i e1] at q1
            cases q2
            exact absurd (hG i _ q1) (Nat.lt_irrefl _)
          · rw [hup i e1] at q1
            rw [hup k e2] at q2
            exact hg i k j' q1 q2
      · by_cases e : k = s
        · rw [e, hupv] at q2
          cases q2
          exact absurd (hH i _ q1) (Nat.lt_irrefl _)
        · rw [hup k e] at q2
          exact hd i k j' q1 q2
      · obtain ⟨j', S, q1, q2, q3⟩ := hRh i hiv
        exact ⟨j', S, q1, by rw [happ j' (hH i j' q1)]; exact q2, q3⟩
      · by_cases e : s' = s
        · subst e
          exact Or.inr ⟨L.length, cs_copy cs_z N, hupv, by simp, cr_copy (cr_congr hN (fun k hk => c1 k hk)), if_pos rfl⟩
        · rcases hRs s' hs' with ⟨q, q0⟩ | ⟨j', S, q1, q2, q3, q4⟩
          · exact Or.inl ⟨by rw [hup s' e]; exact q, (pk_un e).trans q0⟩
          · exact Or.inr ⟨j', S, by rw [hup s' e]; exact q1, by rw [happ j' (hG s' j' q1)]; exact q2, cr_congr q3 (fun k hk => c2 s' k e hk), (pk_un e).trans q4⟩
theorem cs_restore (hR : cc_R u N H G f n L M) (x : Int32) : cc_G l mm_X2_restore mm_X3_restore [.int x] u N T H G f n L M := by
  cases hx : cb_wi x (nI 0) (nI 1) with
  | false => exact cc_same hR (cc_rest_no hx) (cm_rest_no l M hx)
  | true =>
    obtain ⟨s, _, hs, rfl⟩ := cb_wi_nat (by omega) (by omega) hx
    have hR2 := cc_R_rec hR
    rcases hR2.2.2.2.2.1 s (by omega) with ⟨q, q0⟩ | ⟨j, S, q1, q2, q3, q4⟩
    · exact cc_same hR (cc_rest_none (by omega) q) (cm_rest_none l M hx (by omega) q0)
    · have hc := cc_rest_ok (l := l) (T := T) (f := f) (pl := nI n) (N := N) (s := s) (by omega) q1 hR.1 q2
      have hm := cm_rest_ok l M hx (by omega) (fun z => by have z2 : M.2.2.2.2.2.1 s = nI 1 := q4; rw [z] at z2; exact absurd z2 (by decide)) (cR_u hR) (cR_6 hR)
      have cp : ∀ k, k < 109 → cm_cp M.2.2.2.2.1 M.1 (109 * s) 0 109 k = cm_sl M (109 * s + k) := fun k hk => by
        unfold cm_cp
        rw [if_pos ⟨by omega, by omega⟩]
        rfl
      rw [cp 3 (by omega), show cm_sl M (109 * s + 3) = cs_to S from q3.2.1.2.2.2.1] at hm
      exact ⟨_, _, _, _, _, _, _, _, _, _, hc, hm, cc_R_st hR2 (cr_copy (cr_congr q3 (fun k hk => cp k hk))), cc_Lr_len _ _ _ _⟩
end SIM
