/-! settings, clauses that go, searches that are only tried -/
def fg_gr (P : Nat → Bool) : Nat → Nat → Nat → Nat
  | 0, _, g => g
  | n + 1, t, g => fg_gr P n (t + 1) (if P t then t else g)
theorem fg_le (P : Nat → Bool) (m : Nat) : ∀ n t g, g ≤ t → (fg_gr P n t g ≤ m ↔ g ≤ m ∧ ∀ x, t ≤ x → x < t + n → P x = true → x ≤ m)
  | 0, t, g, _ => ⟨fun h => ⟨h, fun x h1 h2 => absurd h2 (by omega)⟩, fun h => h.1⟩
  | n + 1, t, g, h => by
    unfold fg_gr
    rw [fg_le P m n (t + 1) _ (by split <;> omega)]
    constructor
    · rintro ⟨a, b⟩
      cases c : P t with
      | true =>
        rw [c, if_pos rfl] at a
        refine ⟨by omega, fun x h1 h2 h3 => ?_⟩
        by_cases q : x = t
        · rw [q]; exact a
        · exact b x (by omega) (by omega) h3
      | false =>
        rw [c, if_neg (fun q => by cases q)] at a
        refine ⟨a, fun x h1 h2 h3 => ?_⟩
        by_cases q : x = t
        · rw [q, c] at h3; cases h3
        · exact b x (by omega) (by omega) h3
    · rintro ⟨a, b⟩
      refine ⟨?_, fun x h1 h2 h3 => b x (by omega) (by omega) h3⟩
      split
      · rename_i c; exact b t (Nat.le_refl _) (by omega) c
      · exact a
theorem cm_gi_gr (c : Int32) : ∀ n x a, x + n = 10 → cm_gi c n x (nI a) = nI (fg_gr (fun x => bt c x || bt c (x + 10)) n x a)
  | 0, _, _, _ => rfl
  | n + 1, x, a, h => by
    unfold cm_gi fg_gr
    by_cases q : cm_so c x = -nI 6
    · have q2 := (cm_so_none (by omega)).mp q
      rw [if_pos q, if_neg (by rw [q2.1, q2.2]; exact Bool.false_ne_true)]
      exact cm_gi_gr c n (x + 1) a (by omega)
    · rw [if_neg q, if_pos (by
        cases e1 : bt c x with
        | true => rfl
        | false =>
          cases e2 : bt c (x + 10) with
          | true => rfl
          | false => exact absurd ((cm_so_none (by omega)).mpr ⟨e1, e2⟩) q)]
      exact cm_gi_gr c n (x + 1) x (by omega)
theorem cb_gr_gr (X : Int32) : ∀ n t g, cb_gr X n t (nI g) = nI (fg_gr (fun t => bt (X ||| cb_op X) t) n t g)
  | 0, _, _ => rfl
  | n + 1, t, g => by
    unfold cb_gr fg_gr
    split
    · exact cb_gr_gr X n (t + 1) t
    · exact cb_gr_gr X n (t + 1) g
def cm_g1 (c : Int32) : Nat := fg_gr (fun x => bt c x || bt c (x + 10)) 9 1 0
theorem cm_g1_le {c : Int32} {m : Nat} : cm_g1 c ≤ m ↔ ∀ x, 1 ≤ x → x ≤ 9 → (bt c x = true ∨ bt c (x + 10) = true) → x ≤ m := by
  unfold cm_g1
  rw [fg_le _ _ _ _ _ (by omega)]
  constructor
  · intro h x h1 h2 h3
    exact h.2 x h1 (by omega) (by rw [Bool.or_eq_true]; exact h3)
  · intro h
    refine ⟨Nat.zero_le _, fun x h1 h2 h3 => h x h1 (by omega) ?_⟩
    rw [Bool.or_eq_true] at h3
    exact h3
theorem cm_g1_9 (c : Int32) : cm_g1 c ≤ 9 := cm_g1_le.mpr (fun x _ h _ => h)
theorem cm_gi_1 (c : Int32) : cm_gi c 9 1 (nI 0) = nI (cm_g1 c) := cm_gi_gr c 9 1 0 rfl
theorem cm_gt_mx (f : Nat → Int32) : ∀ n k a, a ≤ 9 → ∃ r, r ≤ 9 ∧ cm_gt f n k (nI a) = nI r ∧ ∀ m, r ≤ m ↔ a ≤ m ∧ ∀ j, k ≤ j → j < k + n → cm_g1 (f (49 + j)) ≤ m
  | 0, k, a, h => ⟨a, h, rfl, fun m => ⟨fun q => ⟨q, fun j h1 h2 => absurd h2 (by omega)⟩, fun q => q.1⟩⟩
  | n + 1, k, a, h => by
    have g9 := cm_g1_9 (f (49 + k))
    unfold cm_gt
    rw [cm_gi_1]
    by_cases c : a < cm_g1 (f (49 + k))
    · rw [if_pos (nI_lt c (by omega))]
      obtain ⟨r, r9, e, q⟩ := cm_gt_mx f n (k + 1) _ g9
      refine ⟨r, r9, e, fun m => (q m).trans ⟨fun ⟨a1, a2⟩ => ⟨by omega, fun j h1 h2 => ?_⟩, fun ⟨a1, a2⟩ => ⟨a2 k (Nat.le_refl _) (by omega), fun j h1 h2 => a2 j (by omega) (by omega)⟩⟩⟩
      by_cases z : j = k
      · rw [z]; exact a1
      · exact a2 j (by omega) (by omega)
    · rw [if_neg (nI_nlt (by omega) (by omega))]
      obtain ⟨r, r9, e, q⟩ := cm_gt_mx f n (k + 1) a h
      refine ⟨r, r9, e, fun m => (q m).trans ⟨fun ⟨a1, a2⟩ => ⟨a1, fun j h1 h2 => ?_⟩, fun ⟨a1, a2⟩ => ⟨a1, fun j h1 h2 => a2 j (by omega) (by omega)⟩⟩⟩
      by_cases z : j = k
      · rw [z]; omega
      · exact a2 j (by omega) (by omega)
theorem cs_all_bt (S : cs_S) (i : Nat) : ∀ n k a, bt (cs_all S n k a) i = true ↔ bt a i = true ∨ ∃ j, k ≤ j ∧ j < k + n ∧ bt (cs_cl S j) i = true
  | 0, k, a => ⟨Or.inl, fun h => h.elim id (fun ⟨j, h1, h2, _⟩ => absurd h2 (by omega))⟩
  | n + 1, k, a => by
    unfold cs_all
    rw [cs_all_bt S i n (k + 1), b_or, Bool.or_eq_true]
    constructor
    · rintro ((h | h) | ⟨j, h1, h2, h3⟩)
      · exact Or.inl h
      · exact Or.inr ⟨k, Nat.le_refl _, by omega, h⟩
      · exact Or.inr ⟨j, by omega, by omega, h3⟩
    · rintro (h | ⟨j, h1, h2, h3⟩)
      · exact Or.inl (Or.inl h)
      · by_cases q : j = k
        · rw [q] at h3; exact Or.inl (Or.inr h3)
        · exact Or.inr ⟨j, by omega, by omega, h3⟩
theorem cr_gt {S : cs_S} {f : Nat → Int32} (h : cr_S0 S f) : ∃ r, r ≤ 9 ∧ cm_gt f (cs_t S) 0 (nI 0) = nI r ∧ cb_gr (cs_all S (cs_t S) 0 (nI 0)) 9 1 (nI 0) = nI r ∧ ∀ m, r ≤ m ↔ ∀ k, k < cs_t S → cm_g1 (cs_cl S k) ≤ m := by
  obtain ⟨ht, hk, -, -, -, hc⟩ := h
  obtain ⟨r, r9, e, q⟩ := cm_gt_mx f (cs_t S) 0 0 (by omega)
  have q2 : ∀ m, r ≤ m ↔ ∀ k, k < cs_t S → cm_g1 (cs_cl S k) ≤ m := fun m => by
    rw [q m]
    constructor
    · rintro ⟨-, a⟩ k hk
      rw [← (hc k hk).2]
      exact a k (Nat.zero_le _) (by omega)
    · intro a
      refine ⟨Nat.zero_le _, fun k _ hk => ?_⟩
      rw [(hc k (by omega)).2]
      exact a k (by omega)
  refine ⟨r, r9, e, ?_, q2⟩
  rw [cb_gr_gr]
  congr 1
  have sg : ∀ i, i < 32 → bt (cs_all S (cs_t S) 0 (nI 0)) i = true → cr_sg 9 i := fun i hi hb => by
    rcases (cs_all_bt S i _ _ _).mp hb with z | ⟨j, _, hj, z⟩
    · rw [show nI 0 = (0 : Int32) from rfl, b_0] at z; cases z
    · exact cr_sg_mono hk.2.2 ((hc j (by omega)).1.1 i hi z)
  have key : ∀ m, fg_gr (fun t => bt (cs_all S (cs_t S) 0 (nI 0) ||| cb_op (cs_all S (cs_t S) 0 (nI 0))) t) 9 1 0 ≤ m ↔ r ≤ m := fun m => by
    rw [fg_le _ _ _ _ _ (by omega), q2]
    have P : ∀ x, 1 ≤ x → x ≤ 9 → (bt (cs_all S (cs_t S) 0 (nI 0) ||| cb_op (cs_all S (cs_t S) 0 (nI 0))) x = true ↔ ∃ k, k < cs_t S ∧ (bt (cs_cl S k) x = true ∨ bt (cs_cl S k) (x + 10) = true)) := fun x h1 h9 => by
      rw [b_or, Bool.or_eq_true, cb_op_bt sg (by omega), show cr_op x = x + 10 from if_pos (by omega), cs_all_bt, cs_all_bt]
      constructor
      · rintro ((z | ⟨j, _, hj, z⟩) | ⟨_, z | ⟨j, _, hj, z⟩⟩)
        · rw [show nI 0 = (0 : Int32) from rfl, b_0] at z; cases z
        · exact ⟨j, by omega, Or.inl z⟩
        · rw [show nI 0 = (0 : Int32) from rfl, b_0] at z; cases z
        · exact ⟨j, by omega, Or.inr z⟩
      · rintro ⟨j, hj, z | z⟩
        · exact Or.inl (Or.inr ⟨j, Nat.zero_le _, by omega, z⟩)
        · exact Or.inr ⟨Or.inl ⟨h1, h9⟩, Or.inr ⟨j, Nat.zero_le _, by omega, z⟩⟩
    constructor
    · rintro ⟨-, a⟩ k hk
      exact cm_g1_le.mpr (fun x h1 h9 hb => a x h1 (by omega) ((P x h1 h9).mpr ⟨k, hk, hb⟩))
    · intro a
      refine ⟨Nat.zero_le _, fun x h1 h2 hb => ?_⟩
      obtain ⟨k, hk, hb⟩ := (P x h1 (by omega)).mp hb
      exact cm_g1_le.mp (a k hk) x h1 (by omega) hb
  exact Nat.le_antisymm ((key r).mpr (Nat.le_refl _)) ((key _).mp (Nat.le_refl _))
theorem cr_c_g1 {a b : Nat} {c : Int32} (h9 : a ≤ 9) (h : cr_c a c) (hg : cm_g1 c ≤ b) : cr_c b c := by
  refine ⟨fun i hi hb => ?_, h.2⟩
  have q := h.1 i hi hb
  rcases q with q | q
  · exact Or.inl ⟨q.1, cm_g1_le.mp hg i q.1 (by omega) (Or.inl hb)⟩
  · have := cm_g1_le.mp hg (i - 10) (by omega) (by omega) (Or.inr (by rw [show i - 10 + 10 = i by omega]; exact hb))
    exact Or.inr ⟨q.1, by omega⟩
theorem crp_re {y : Int32} {S : cs_S} {f : Nat → Int32} (h : crp y S f) {r : Nat} (h1 : 1 ≤ r) (h2 : r ≤ 20) : crp y (cs_wre S (nI r)) (upd f 1 (nI r)) := by
  have g9 := cr_g9 h.1
  have k9 := cr_k9 h.1
  obtain ⟨⟨hIs, hIc, hIt, hIr⟩, hF0, hFc, hFt, hFx⟩ := h
  refine ⟨⟨⟨hIs.1, hIs.2.1, ⟨r, h1, h2, rfl⟩, hIs.2.2.2.1, hIs.2.2.2.2⟩, hIc, hIt, hIr⟩, ⟨(pk_un (by omega)).trans hF0.1, pk_us, (pk_un (by omega)).trans hF0.2.2.1, (pk_un (by omega)).trans hF0.2.2.2.1, (pk_un (by omega)).trans hF0.2.2.2.2.1, (pk_un (by omega)).trans hF0.2.2.2.2.2.1, (pk_un (by omega)).trans hF0.2.2.2.2.2.2.1, (pk_un (by omega)).trans hF0.2.2.2.2.2.2.2.1, (pk_un (by omega)).trans hF0.2.2.2.2.2.2.2.2.1, (pk_un (by omega)).trans hF0.2.2.2.2.2.2.2.2.2⟩, fun k hk => (pk_un (by omega)).trans (hFc k hk), fun k hk => ?_, fun x hx9 hxk => ?_⟩
  · have q := hFt k hk
    exact ⟨(pk_un (by omega)).trans q.1, (pk_un (by omega)).trans q.2.1, (pk_un (by omega)).trans q.2.2.1, (pk_un (by omega)).trans q.2.2.2⟩
  · have q := hFx x hx9 hxk
    exact ⟨(pk_un (by omega)).trans q.1, (pk_un (by omega)).trans q.2.1, (pk_un (by omega)).trans q.2.2⟩
theorem crp_fi {y : Int32} {S : cs_S} {f : Nat → Int32} (h : crp y S f) {v : Int32} (hv : v = nI 0 ∨ v = nI 1) : crp y (cs_wfi S v) (upd f 2 v) := by
  have g9 := cr_g9 h.1
  have k9 := cr_k9 h.1
  obtain ⟨⟨hIs, hIc, hIt, hIr⟩, hF0, hFc, hFt, hFx⟩ := h
  refine ⟨⟨⟨hIs.1, hIs.2.1, hIs.2.2.1, hv, hIs.2.2.2.2⟩, hIc, hIt, hIr⟩, ⟨(pk_un (by omega)).trans hF0.1, (pk_un (by omega)).trans hF0.2.1, pk_us, (pk_un (by omega)).trans hF0.2.2.2.1, (pk_un (by omega)).trans hF0.2.2.2.2.1, (pk_un (by omega)).trans hF0.2.2.2.2.2.1, (pk_un (by omega)).trans hF0.2.2.2.2.2.2.1, (pk_un (by omega)).trans hF0.2.2.2.2.2.2.2.1, (pk_un (by omega)).trans hF0.2.2.2.2.2.2.2.2.1, (pk_un (by omega)).trans hF0.2.2.2.2.2.2.2.2.2⟩, fun k hk => (pk_un (by omega)).trans (hFc k hk), fun k hk => ?_, fun x hx9 hxk => ?_⟩
  · have q := hFt k hk
    exact ⟨(pk_un (by omega)).trans q.1, (pk_un (by omega)).trans q.2.1, (pk_un (by omega)).trans q.2.2.1, (pk_un (by omega)).trans q.2.2.2⟩
  · have q := hFx x hx9 hxk
    exact ⟨(pk_un (by omega)).trans q.1, (pk_un (by omega)).trans q.2.1, (pk_un (by omega)).trans q.2.2⟩
theorem cb_wi01 {x : Int32} : cb_wi x (nI 0) (nI 1) = true ↔ x = nI 0 ∨ x = nI 1 := by
  constructor
  · intro h
    obtain ⟨k, _, hk, rfl⟩ := cb_wi_nat (by omega) (by omega) h
    rcases (show k = 0 ∨ k = 1 by omega) with rfl | rfl
    · exact Or.inl rfl
    · exact Or.inr rfl
  · rintro (rfl | rfl) <;> decide
section SIM
variable {l : Launch} {u : Nat} {N T : cs_S} {H G : Nat → Option Nat} {f : Nat → Int32} {n : Nat} {L : List cs_S} {M : cm_S}
theorem cs_set (hR : cc_R u N H G f n L M) (s v : Int32) : cc_G l mm_X2_set mm_X3_set [.int s, .int v] u N T H G f n L M := by
  have hB := cR_B hR
  have hS0 := cr_S0_of hR.2.1
  rcases cb_sw s 2 (by omega) with ⟨j, hj, rfl⟩ | hs
  · rcases (show j = 0 ∨ j = 1 ∨ j = 2 by omega) with rfl | rfl | rfl
    · have ei : cb_iv (nI 0) v = cb_wi v (nI 1) (nI 9) := if_pos rfl
      cases hv : cb_wi v (nI 1) (nI 9) with
      | false => exact cc_same hR (cc_set_0 (Nat.le_refl _) (cc_set0_bad hv)) (cm_set_bad l M (ei.trans hv))
      | true =>
        obtain ⟨a, ha1, ha, rfl⟩ := cb_wi_nat (by omega) (by omega) hv
        obtain ⟨r, r9, e1, e2, q⟩ := cr_gt hS0
        by_cases c : a < r
        · have cI := nI_lt c (by omega)
          exact cc_same hR (cc_set_0 (Nat.le_refl _) (cc_set0_need hv hB (by rw [e2]; exact cI))) (cm_set_need l M (ei.trans hv) (cR_3 hR) (cR_t20 hR) (by rw [e1]; exact cI))
        · have cI : ¬ nI a < nI r := nI_nlt (by omega) (by omega)
          have hc := cc_set_0 (cc_Lr_len _ _ _ _) (cc_set0_ok (l := l) (T := T) (f := f) (pl := nI n) hv hB (by rw [e2]; exact cI) hR.1)
          have hm := cm_set_things l M (ei.trans hv) (cR_3 hR) (cR_t20 hR) (by rw [e1]; exact cI) (cR_u hR) (cR_6 hR)
          rw [show cm_st M 0 = cs_th N from hR.2.1.2.1.1] at hm
          have fk : cs_k (cs_wth N (nI a)) = a := nI_clamp (n := a) (by omega)
          have q2 := (q a).mp (by omega)
          refine ⟨_, _, _, _, _, _, _, _, _, _, hc, hm, cc_R_st (cc_R_rec hR) (cr_anew (S := cs_wth N (nI a)) ⟨hS0.1, ⟨by rw [fk], by omega, by omega⟩, hS0.2.2.1, hS0.2.2.2.1, ⟨pk_us, (pk_un (by omega)).trans hS0.2.2.2.2.1.2.1, (pk_un (by omega)).trans hS0.2.2.2.2.1.2.2.1, (pk_un (by omega)).trans hS0.2.2.2.2.1.2.2.2⟩, fun k hk => ⟨?_, (pk_un (by omega)).trans (hS0.2.2.2.2.2 k hk).2⟩⟩), cc_Lr_len _ _ _ _⟩
          rw [fk]
          exact cr_c_g1 hS0.2.1.2.2 (hS0.2.2.2.2.2 k hk).1 (q2 k hk)
    · have ei : cb_iv (nI 1) v = cb_wi v (nI 1) (nI 20) := (if_neg (by decide)).trans (if_pos rfl)
      cases hv : cb_wi v (nI 1) (nI 20) with
      | false => exact cc_same hR (cc_set_1 (Nat.le_refl _) (cc_set1_bad hv)) (cm_set_bad l M (ei.trans hv))
      | true =>
        obtain ⟨a, ha1, ha, rfl⟩ := cb_wi_nat (by omega) (by omega) hv
        have hc := cc_set_1 (cc_Lr_len _ _ _ _) (cc_set1_ok (l := l) (N := N) (T := T) (f := f) (pl := nI n) hv hR.1)
        have hm := cm_set_other l M (j := 1) (Or.inl rfl) (ei.trans hv) (cR_u hR) (cR_6 hR)
        rw [show cm_st M 1 = cs_re N from hR.2.1.2.1.2.1] at hm
        exact ⟨_, _, _, _, _, _, _, _, _, _, hc, hm, cc_R_st (cc_R_rec hR) (crp_re hR.2.1 ha1 ha), cc_Lr_len _ _ _ _⟩
    · have ei : cb_iv (nI 2) v = cb_wi v (nI 0) (nI 1) := (if_neg (by decide)).trans ((if_neg (by decide)).trans (if_pos rfl))
      by_cases hv : v = nI 0 ∨ v = nI 1
      · have hc := cc_set_2 (cc_Lr_len _ _ _ _) (cc_set2_ok (l := l) (N := N) (T := T) (f := f) (pl := nI n) hv hR.1)
        have hm := cm_set_other l M (j := 2) (Or.inr rfl) (ei.trans (cb_wi01.mpr hv)) (cR_u hR) (cR_6 hR)
        rw [show cm_st M 2 = cs_fi N from hR.2.1.2.1.2.2.1] at hm
        exact ⟨_, _, _, _, _, _, _, _, _, _, hc, hm, cc_R_st (cc_R_rec hR) (crp_fi hR.2.1 hv), cc_Lr_len _ _ _ _⟩
      · exact cc_same hR (cc_set_2 (Nat.le_refl _) (cc_set2_bad (fun q => hv (Or.inl q)) (fun q => hv (Or.inr q)))) (cm_set_bad l M (ei.trans (Bool.eq_false_iff.mpr (fun q => hv (cb_wi01.mp q)))))
  · refine cc_same hR (cc_set_bad hs) (cm_set_bad l M ?_)
    unfold cb_iv
    rw [if_neg (fun q => by rw [q] at hs; revert hs; decide), if_neg (fun q => by rw [q] at hs; revert hs; decide), if_neg (fun q => by rw [q] at hs; revert hs; decide)]
theorem cz_drop (hR : cc_R u N H G f n L M) (x : Int32) : cc_G l mm_X2_drop mm_X3_drop [.int x] u N T H G f n L M := by
  have t20 := cR_t20 hR
  have e := cb_bewi (x := x) (t := cs_t N) (by omega)
  have et := (cR_B hR).2.1.1
  have hS0 := cr_S0_of hR.2.1
  cases hb : cb_be x (nI (cs_t N)) with
  | false => exact cc_same hR (cc_drop_no (by rw [et]; exact hb)) (cm_drop_no l M (by rw [cR_3 hR, ← e]; exact hb))
  | true =>
    obtain ⟨k, hk, rfl⟩ := cb_be_nat (by omega) hb
    have hc := cc_drop_ok (l := l) (N := N) (T := T) (f := f) (pl := nI n) (k := k) (by rw [et]; exact hb) (by omega) hR.1
    have hm := cm_drop_ok l M (by rw [cR_3 hR, ← e]; exact hb) (cR_3 hR) t20 hk (cR_u hR) (cR_6 hR)
    obtain ⟨S', hS'⟩ : ∃ S', S' = cs_wto (cs_wcl N (cs_rm (cs_cl N) k 59)) (cs_to N - nI 1) := ⟨_, rfl⟩
    have e1 : cc_dr N k = cs_anew S' := by rw [hS']; rfl
    have eto : cs_to S' = nI (cs_t N - 1) := by
      rw [hS']
      show cs_to N - nI 1 = _
      rw [et]
      obtain ⟨t', ht'⟩ : ∃ t', cs_t N = t' + 1 := ⟨cs_t N - 1, by omega⟩
      rw [ht', Nat.add_sub_cancel]
      exact nI_pred t'
    have ft : cs_t S' = cs_t N - 1 := by unfold cs_t; rw [eto]; exact nI_clamp (by omega)
    have fk : cs_k S' = cs_k N := by rw [hS']; rfl
    have fcl : cs_cl S' = cs_rm (cs_cl N) k 59 := by rw [hS']
    have a := cr_anew (S := S') (f := upd (cm_sf (cm_st M) k (cs_t N - 1)) 3 (nI (cs_t N - 1))) ⟨⟨by rw [ft]; exact eto, by omega⟩, by rw [fk, show cs_th S' = cs_th N by rw [hS']]; exact hS0.2.1, by rw [show cs_re S' = cs_re N by rw [hS']]; exact hS0.2.2.1, by rw [show cs_fi S' = cs_fi N by rw [hS']]; exact hS0.2.2.2.1, ⟨?_, ?_, ?_, by rw [eto]; exact pk_us⟩, fun j hj => ?_⟩
    · rw [e1] at hc
      have hm2 : cw_M l mm_X3_drop 0 0 [.ref 0, .int (nI k)] (cm_h M) (some (.int (cs_to N - nI 1))) (cm_h (cm_wst (cm_rec M u) (cm_tk (cm_st M) (cs_t N) k))) := by
        rw [← show cm_tk (cm_st M) (cs_t N) k 3 = cs_to N - nI 1 from by
          have z := a.2.1.2.2.2.1
          rw [ft] at z
          refine z.trans ?_
          show cs_to S' = _
          rw [hS']]
        exact hm
      have a2 : cr (cs_anew S') (cm_tk (cm_st M) (cs_t N) k) := by rw [ft] at a; exact a
      exact ⟨_, _, _, _, _, _, _, _, _, _, hc, hm2, cc_R_st (cc_R_rec hR) a2, cc_Lr_len _ _ _ _⟩
    · rw [pk_un (by omega), show cs_th S' = cs_th N by rw [hS']]
      unfold cm_sf
      rw [if_neg (by omega)]
      exact hS0.2.2.2.2.1.1
    · rw [pk_un (by omega), show cs_re S' = cs_re N by rw [hS']]
      unfold cm_sf
      rw [if_neg (by omega)]
      exact hS0.2.2.2.2.1.2.1
    · rw [pk_un (by omega), show cs_fi S' = cs_fi N by rw [hS']]
      unfold cm_sf
      rw [if_neg (by omega)]
      exact hS0.2.2.2.2.1.2.2.1
    · rw [ft] at hj
      rw [fk, fcl, pk_un (by omega)]
      unfold cm_sf cs_rm
      by_cases c : k ≤ j
      · rw [if_pos ⟨c, by omega⟩, if_pos ⟨by omega, by omega⟩, show 49 + j + 1 = 49 + (j + 1) by omega]
        exact hS0.2.2.2.2.2 (j + 1) (by omega)
      · rw [if_neg (fun q => c q.1), if_neg (fun q => c (by omega))]
        exact hS0.2.2.2.2.2 j (by omega)
theorem cm_kp_at (M : cm_S) (f2 : Nat → Int32) {k : Nat} (hk : k < 109) : cm_cp (cm_kp M) f2 0 0 109 k = cm_st M k := by
  unfold cm_cp
  rw [if_pos ⟨by omega, by omega⟩]
  show cm_cp M.1 M.2.1 0 0 109 (0 + (k - 0)) = _
  unfold cm_cp
  rw [if_pos ⟨by omega, by omega⟩, show 0 + (0 + (k - 0) - 0) = k by omega]
theorem cc_R_back (hR : cc_R u N H G f n L M) (f2 : Nat → Int32) : cc_R u N H G f n L (cm_cp (cm_kp M) f2 0 0 109, cm_kp M, M.2.2) := by
  obtain ⟨hok, hN, hrc, hRh, hRs, hRp, hpn⟩ := hR
  exact ⟨hok, cr_congr hN (fun k hk => cm_kp_at M f2 hk), hrc, hRh, hRs, hRp, hpn⟩
theorem cs_searched (hR : cc_R u N H G f n L M) (x w : Int32) : cc_G l mm_X2_searched mm_X3_searched [.int x, .int w] u N T H G f n L M := by
  have hS0 := cr_S0_of (cr_copy (S := T) hR.2.1)
  by_cases hx : x = nI 0 ∨ x = nI 1
  · cases hw : cb_wi w (nI 0) (nI 2) with
    | false =>
      refine cc_same hR (cc_sr_bad ?_) (cm_sr_bad l M (Or.inr hw))
      have q := of_decide_eq_false hw
      by_cases c : w < 0
      · exact Or.inr (Or.inl c)
      · exact Or.inr (Or.inr (Classical.byContradiction (fun z => q ⟨c, z⟩)))
    | true =>
      obtain ⟨j, _, hj, rfl⟩ := cb_wi_nat (by omega) (by omega) hw
      have a : cr (cc_t0 T N x) (cm_an (upd (cm_st M) 2 x) (cs_t N)) := cr_anew (S := cs_wfi (cs_copy T N) x) ⟨hS0.1, hS0.2.1, hS0.2.2.1, hx, ⟨(pk_un (by omega)).trans hS0.2.2.2.2.1.1, (pk_un (by omega)).trans hS0.2.2.2.2.1.2.1, pk_us, (pk_un (by omega)).trans hS0.2.2.2.2.1.2.2.2⟩, fun k hk => ⟨(hS0.2.2.2.2.2 k hk).1, (pk_un (by omega)).trans (hS0.2.2.2.2.2 k hk).2⟩⟩
      obtain ⟨f2, h2, hg⟩ := cr_goOn l (cm_an (upd (cm_st M) 2 x) (cs_t N), cm_kp M, M.2.2) a (N := 2000) (by omega)
      have hc := cc_sr_ok (l := l) (u := nI u) (T := T) (H := H) (G := G) (f := f) (pl := nI n) (L := L) (cR_B hR) hx hj
      have hm := cm_sr_ok l M (cb_wi01.mpr hx) hw (cR_3 hR) (cR_t20 hR) hg
      have F := h2.2.1
      have e : cm_sra f2 (nI j) = cc_sra (cc_ts T N x) (nI j) := by
        unfold cm_sra cc_sra cc_ts
        rw [F.2.2.2.2.2.1, F.2.2.2.2.2.2.2.2.1, F.2.2.2.2.2.2.2.2.2]
        rfl
      rw [e] at hm
      exact ⟨_, _, _, _, _, _, _, _, _, _, hc, hm, cc_R_back hR f2, Nat.le_refl _⟩
  · exact cc_same hR (cc_sr_bad (Or.inl hx)) (cm_sr_bad l M (Or.inl (Bool.eq_false_iff.mpr (fun q => hx (cb_wi01.mp q)))))
theorem cb_th_big {s : Nat} (h : 10 ≤ s) (hs : s < 2 ^ 31) : cb_th (nI s) = nI (s - 10) := by
  unfold cb_th
  rw [if_neg (nI_nlt h hs)]
  obtain ⟨r, rfl⟩ : ∃ r, s = r + 10 := ⟨s - 10, by omega⟩
  rw [Nat.add_sub_cancel, ← nI_add, Int32.add_sub_cancel]
theorem cs_ifTold (hR : cc_R u N H G f n L M) (x : Int32) : cc_G l mm_X2_ifTold mm_X3_ifTold [.int x] u N T H G f n L M := by
  have hS0 := cr_S0_of (cr_copy (S := T) hR.2.1)
  have et := cR_th hR
  have e0 := cR_0 hR
  have k9 := cR_k9 hR
  have t20 := cR_t20 hR
  cases hx : cb_wi x (nI 1) (nI 19) with
  | false =>
    refine cc_same hR (cc_it_bad ?_) (cm_it_bad1 l M hx)
    rw [et]
    refine Bool.eq_false_iff.mpr (fun q => of_decide_eq_false hx ?_)
    obtain ⟨r, h1, h2, h3⟩ := cb_wi_nat (by omega) (by omega) q
    by_cases c : x < nI 10
    · unfold cb_th at h3
      rw [if_pos c] at h3
      rw [h3]
      exact ⟨nI_nlt h1 (by omega), nI_nlt (by omega) (by omega)⟩
    · have c0 : ¬ x < 0 := fun z => c (by
        rw [Int32.lt_iff_toInt_lt] at z ⊢
        have z1 : (0 : Int32).toInt = 0 := rfl
        have z2 : (nI 10).toInt = 10 := rfl
        omega)
      obtain ⟨s, hs, rfl⟩ := nI_of c0
      have s10 : 10 ≤ s := Nat.not_lt.mp (fun z => c (nI_lt z (by omega)))
      rw [cb_th_big s10 hs] at h3
      have := (nI_eq (by omega) (by omega)).mp h3
      exact ⟨nI_nlt (by omega) hs, nI_nlt (by omega) (by omega)⟩
  | true =>
    obtain ⟨s, hs1, hs, rfl⟩ := cb_wi_nat (by omega) (by omega) hx
    have em := cb_mod10 s (by omega)
    cases hy : cb_wi (nI (s % 10)) (nI 1) (nI (cs_k N)) with
    | false => exact cc_same hR (cc_it_bad (by rw [em, et]; exact hy)) (cm_it_bad2 l M (by omega) hx (by rw [e0]; exact hy))
    | true =>
      by_cases c : cs_t N < 20
      · obtain ⟨S', hS'⟩ : ∃ S', S' = cs_tell (cs_copy T N) (cb_set (nI s)) := ⟨_, rfl⟩
        have eI : cc_i0 T N (nI s) = cs_anew S' := by rw [hS']; rfl
        have eto : cs_to S' = nI (cs_t N + 1) := by
          rw [hS', ← nI_add]
          show cs_to N + nI 1 = _
          rw [(cR_B hR).2.1.1]
        have ft : cs_t S' = cs_t N + 1 := by unfold cs_t; rw [eto]; exact nI_clamp (by omega)
        have fk : cs_k S' = cs_k N := by rw [hS']; rfl
        have fcl : cs_cl S' = upd (cs_cl (cs_copy T N)) (cs_t N) (cb_set (nI s)) := by rw [hS']; rfl
        have z1 := (cb_wi_t hy).2
        have z2 := (nI_leI (by omega) (by omega)).mp z1
        have z3 : 1 ≤ s % 10 := Nat.not_lt.mp (fun z => (cb_wi_t hy).1 (nI_lt z (by omega)))
        have a := cr_anew (S := S') (f := cm_itf (cm_st M) (cs_t N) s) ⟨⟨by rw [ft]; exact eto, by omega⟩, by rw [fk, show cs_th S' = cs_th N by rw [hS']; rfl]; exact hS0.2.1, by rw [show cs_re S' = cs_re N by rw [hS']; rfl]; exact hS0.2.2.1, by rw [show cs_fi S' = cs_fi N by rw [hS']; rfl]; exact hS0.2.2.2.1, ⟨?_, ?_, ?_, ?_⟩, fun j hj => ?_⟩
        · rw [ft, ← eI] at a
          obtain ⟨f2, h2, hg⟩ := cr_goOn l (cm_an (cm_itf (cm_st M) (cs_t N) s) (cs_t N + 1), cm_kp M, M.2.2) a (N := 2000) (by omega)
          have hc := cc_it_ok (l := l) (u := nI u) (T := T) (H := H) (G := G) (f := f) (pl := nI n) (L := L) (cR_B hR) (x := nI s) (by rw [em, et]; exact hy) c
          have hm := cm_it_ok l M (by omega) hx (by rw [e0]; exact hy) (cR_3 hR) (by omega) hg
          have F := h2.2.1
          have e : cm_ita f2 = cc_ita (cc_is T N (nI s)) := by
            unfold cm_ita cc_ita cc_is
            rw [F.2.2.2.2.2.1]
          rw [e] at hm
          exact ⟨_, _, _, _, _, _, _, _, _, _, hc, hm, cc_R_back hR f2, Nat.le_refl _⟩
        · unfold cm_itf
          rw [pk_un (by omega), pk_un (by omega), hS']
          exact hS0.2.2.2.2.1.1
        · unfold cm_itf
          rw [pk_un (by omega), pk_un (by omega), hS']
          exact hS0.2.2.2.2.1.2.1
        · unfold cm_itf
          rw [pk_un (by omega), pk_un (by omega), hS']
          exact hS0.2.2.2.2.1.2.2.1
        · unfold cm_itf
          rw [pk_us, eto]
        · rw [ft] at hj
          rw [fk, fcl]
          have e3 : cm_itf (cm_st M) (cs_t N) s (49 + j) = upd (cm_st M) (49 + cs_t N) (cb_set (nI s)) (49 + j) := pk_un (by omega)
          rw [e3]
          by_cases q : j = cs_t N
          · subst q
            rw [pk_us, pk_us]
            refine ⟨cr_c_set k9 ?_, rfl⟩
            by_cases c10 : s < 10
            · exact Or.inl ⟨hs1, by omega⟩
            · exact Or.inr ⟨by omega, by omega⟩
          · rw [pk_un q, pk_un (show 49 + j ≠ 49 + cs_t N by omega)]
            exact hS0.2.2.2.2.2 j (show j < cs_t N by omega)
      · have e20 : cs_t N = 20 := by omega
        exact cc_same hR (cc_it_many (by rw [em, et]; exact hy) (by rw [(cR_B hR).2.1.1, e20]; decide)) (cm_it_many l M (by omega) hx (by rw [e0]; exact hy) (by rw [cR_3 hR, e20]))
end SIM
