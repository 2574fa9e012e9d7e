/-! clauses, and answers counted by hand -/
theorem cm_si_ct (c : Int32) : ∀ n s a, cm_si c n s a + fb_ct (bt c) s = a + fb_ct (bt c) (s + n)
  | 0, _, _ => rfl
  | n + 1, s, a => by
    have ih := cm_si_ct c n (s + 1) (a + (if bt c s then 1 else 0))
    rw [fb_ct_succ, show s + 1 + n = s + (n + 1) by omega] at ih
    unfold cm_si
    generalize (if bt c s then 1 else 0) = z at *
    omega
theorem cb_neg1 : ∀ r, r ≤ 30 → -nI r - nI 1 = -nI (r + 1) := by decide +kernel
theorem cb_negn : ∀ r, r ≤ 30 → 1 ≤ r → ¬ -nI r = 0 := by decide +kernel
theorem cm_sa_done (c : Int32) : ∀ n x r a, 1 ≤ r → r + n ≤ 30 → cm_sa c n x (-nI r) a = a
  | 0, _, _, _, _, _ => rfl
  | n + 1, x, r, a, h1, h2 => by
    unfold cm_sa
    rw [show (if ¬ cm_so c x = -nI 6 ∧ -nI r = 0 then cm_so c x else a) = a from if_neg (fun q => cb_negn r (by omega) h1 q.2)]
    split
    · rw [show -nI r - nI 0 = -nI r from Int32.sub_zero _]
      exact cm_sa_done c n (x + 1) r a h1 (by omega)
    · rw [cb_neg1 r (by omega)]
      exact cm_sa_done c n (x + 1) (r + 1) a (by omega) (by omega)
theorem cm_sa_sio {c : Int32} (hc : ∀ i, i < 32 → bt c i = true → cr_sg 9 i) : ∀ n x ps q, x + n = 10 → 1 ≤ x → ps + q ≤ 20 → cm_sa c n x (nI q) (-nI 6) = cb_sio c (nI (ps + q + 1)) n x (nI ps)
  | 0, _, _, _, _, _, _ => rfl
  | n + 1, x, ps, q, h, h1, h2 => by
    have P : bt (c ||| cb_op c) x = true ↔ (bt c x = true ∨ bt c (x + 10) = true) := by
      rw [b_or, Bool.or_eq_true, cb_op_bt hc (by omega), show cr_op x = x + 10 from if_pos (by omega)]
      exact ⟨fun z => z.elim Or.inl (fun z => Or.inr z.2), fun z => z.elim Or.inl (fun z => Or.inr ⟨Or.inl ⟨h1, by omega⟩, z⟩)⟩
    unfold cm_sa cb_sio
    by_cases so : cm_so c x = -nI 6
    · have z := (cm_so_none (by omega)).mp so
      rw [if_pos so, if_neg (fun w => w.1 so), if_neg (fun w => by have := P.mp w; rw [z.1, z.2] at this; rcases this with e | e <;> cases e), show nI q - nI 0 = nI q from Int32.sub_zero _]
      exact cm_sa_sio hc n (x + 1) ps q (by omega) (by omega) h2
    · have z : bt c x = true ∨ bt c (x + 10) = true := by
        cases e1 : bt c x with
        | true => exact Or.inl rfl
        | false =>
          cases e2 : bt c (x + 10) with
          | true => exact Or.inr rfl
          | false => exact absurd ((cm_so_none (by omega)).mpr ⟨e1, e2⟩) so
      rw [if_neg so, if_pos (P.mpr z), nI_add]
      match q with
      | 0 =>
        rw [if_pos ⟨so, rfl⟩, if_pos rfl, show nI 0 - nI 1 = -nI 1 by decide, cm_sa_done c n (x + 1) 1 _ (by omega) (by omega)]
        unfold cm_so
        by_cases e1 : bt c x = true
        · rw [if_pos e1, if_pos e1]
        · rw [if_neg e1, if_neg e1, if_pos (z.resolve_left e1)]
      | q + 1 =>
        rw [if_neg (fun w => nI_ne0 (n := q + 1) (by omega) (by omega) w.2), if_neg (fun w => by have := (nI_eq (by omega) (by omega)).mp w; omega), show nI (q + 1) - nI 1 = nI q from nI_pred q, show ps + (q + 1) + 1 = (ps + 1) + q + 1 by omega]
        exact cm_sa_sio hc n (x + 1) (ps + 1) q (by omega) (by omega) (by omega)
theorem cr_cla {y : Int32} {S : cs_S} {f : Nat → Int32} (h : crp y S f) {c : Int32} (hc : cr_c (cs_k S) c) {j : Nat} (hj : j ≤ 12) : cc_cla S c j = cm_cla f c j := by
  have k9 := cr_k9 h.1
  have lo := cr_c_lo k9 hc
  unfold cc_cla cm_cla
  by_cases j0 : j = 0
  · rw [if_pos j0, if_pos j0, cb_pop lo]
    have e : cm_si c 19 1 0 + fb_ct (bt c) 1 = 0 + fb_ct (bt c) 20 := cm_si_ct c 19 1 0
    have z : fb_ct (bt c) 1 = 0 := fb_ct_zero.mpr (fun k hk => by
      cases q : bt c k with
      | false => rfl
      | true =>
        have := hc.1 k (by omega) q
        unfold cr_sg at this
        omega)
    rw [z] at e
    congr 1
    omega
  · rw [if_neg j0, if_neg j0]
    by_cases j1 : j = 10
    · rw [if_pos j1, if_pos j1, show cm_tru f c = cs_tr S c from cr_tru h hc]
    · rw [if_neg j1, if_neg j1]
      have op := cr_opn h hc
      by_cases j2 : j = 11
      · rw [if_pos j2, if_pos j2]
        unfold cm_fa
        rw [show cm_tru f c = cs_tr S c from cr_tru h hc, Bool.and_comm]
        congr 2
        refine decide_eq_decide.mpr ?_
        rw [op.2]
        constructor
        · intro q
          rw [q]
          exact fb_ct_zero.mpr (fun k _ => b_0 k)
        · intro q
          refine b_ext (fun i hi => ?_)
          rw [b_0]
          by_cases i20 : i < 20
          · exact fb_ct_zero.mp q i i20
          · cases z : bt (cs_op S c) i with
            | false => rfl
            | true =>
              have := ((cr_op_bt h.1 hc hi).mp z).1
              rw [lo i (by omega) hi] at this
              cases this
      · rw [if_neg j2, if_neg j2]
        by_cases j3 : j = 12
        · rw [if_pos j3, if_pos j3, op.1]
        · rw [if_neg j3, if_neg j3]
          obtain ⟨q, rfl⟩ : ∃ q, j = q + 1 := ⟨j - 1, by omega⟩
          rw [show nI (q + 1) - nI 1 = nI q from nI_pred q]
          have := cm_sa_sio (c := c) (fun i hi hb => cr_sg_mono k9 (hc.1 i hi hb)) 9 1 0 q rfl (by omega) (by omega)
          rw [Nat.zero_add] at this
          exact this.symm
section SIM
variable {l : Launch} {u : Nat} {N T : cs_S} {H G : Nat → Option Nat} {f : Nat → Int32} {n : Nat} {L : List cs_S} {M : cm_S}
theorem cR_tn (hR : cc_R u N H G f n L M) : cs_to N + cs_le N = nI (cs_t N + cs_n N) ∧ cm_st M 3 + cm_st M 4 = nI (cs_t N + cs_n N) ∧ cs_t N + cs_n N ≤ 60 := by
  refine ⟨?_, ?_, cr_n60 hR.2.1⟩
  · have e1 := (cR_B hR).2.1.1
    have e2 := (cR_B hR).2.2.1.1
    rw [← nI_add, ← e1, ← e2]
  · rw [cR_3 hR, cR_4 hR, nI_add]
end SIM
/-! the ways to choose values -/
theorem bt_nI {A i : Nat} (h : A < 2 ^ 32) : bt (nI A) i = A.testBit i := by
  show (nI A).toBitVec.toNat.testBit i = _
  rw [cn_nI h]
section CHO
variable {N : cs_S} {f : Nat → Int32} {A : Nat}
theorem cs_ch_bt (h : cr_S0 N f) (hA : A < 2 ^ cs_k N) {i : Nat} (hi : i < 32) : bt (cs_ch N (nI A)) i = ((decide (1 ≤ i) && A.testBit (i - 1)) || (decide (11 ≤ i) && (decide (i - 11 < cs_k N) && !A.testBit (i - 11)))) := by
  have k9 := h.2.1.2.2
  have p9 := cb_pow9 k9
  have e : nI (2 ^ cs_k N) - nI 1 - nI A = nI (2 ^ cs_k N - (A + 1)) := by
    have e1 : nI (2 ^ cs_k N) = nI (2 ^ cs_k N - (A + 1)) + nI A + nI 1 := by
      rw [nI_add, nI_add]
      congr 1
      omega
    rw [e1, Int32.add_sub_cancel, Int32.add_sub_cancel]
  unfold cs_ch
  rw [h.2.1.1, cb_pow _ k9, e, b_or, b_shl 1 (by omega) _ hi, b_shl 10 (by omega) _ hi, b_shl 1 (by omega) _ (by omega), bt_nI (by omega), bt_nI (by omega), Nat.testBit_two_pow_sub_succ hA]
  congr 1
  by_cases c : 11 ≤ i
  · rw [decide_eq_true (show 10 ≤ i by omega), decide_eq_true (show 1 ≤ i - 10 by omega), decide_eq_true c, show i - 10 - 1 = i - 11 by omega]
    rfl
  · rw [decide_eq_false c]
    by_cases c2 : 10 ≤ i
    · rw [decide_eq_false (show ¬ 1 ≤ i - 10 by omega), decide_eq_true c2]; rfl
    · rw [decide_eq_false c2]; rfl
theorem cs_ch_lo (h : cr_S0 N f) (hA : A < 2 ^ cs_k N) {i : Nat} (h1 : 1 ≤ i) (hi : i ≤ cs_k N) : bt (cs_ch N (nI A)) i = A.testBit (i - 1) := by
  have k9 := h.2.1.2.2
  rw [cs_ch_bt h hA (by omega), decide_eq_true h1, decide_eq_false (show ¬ 11 ≤ i by omega)]
  cases A.testBit (i - 1) <;> rfl
theorem cs_ch_hi (h : cr_S0 N f) (hA : A < 2 ^ cs_k N) {i : Nat} (h1 : 11 ≤ i) (hi : i ≤ 10 + cs_k N) : bt (cs_ch N (nI A)) i = !A.testBit (i - 11) := by
  have k9 := h.2.1.2.2
  have z : A.testBit (i - 1) = false := Nat.testBit_lt_two_pow (Nat.lt_of_lt_of_le hA (Nat.pow_le_pow_right (by omega) (by omega)))
  rw [cs_ch_bt h hA (by omega), z, decide_eq_true h1, decide_eq_true (show i - 11 < cs_k N by omega), Bool.and_false]
  cases A.testBit (i - 11) <;> rfl
theorem cm_fi_iff (c : Int32) (A : Nat) : ∀ n s a, cm_fi c A n s a = true ↔ a = true ∨ ∃ j, s ≤ j ∧ j < s + n ∧ bt c j = true ∧ j ≠ 10 ∧ cb_n (bt (nI A) (j % 10 - 1)) = cb_wa j
  | 0, s, a => ⟨Or.inl, fun h => h.elim id (fun ⟨j, h1, h2, _⟩ => absurd h2 (by omega))⟩
  | n + 1, s, a => by
    unfold cm_fi
    rw [cm_fi_iff c A n (s + 1), Bool.or_eq_true, Bool.and_eq_true, Bool.and_eq_true, decide_eq_true_iff, decide_eq_true_iff]
    constructor
    · rintro ((h | h) | ⟨j, h1, h2, h3⟩)
      · exact Or.inl h
      · exact Or.inr ⟨s, Nat.le_refl _, by omega, h⟩
      · exact Or.inr ⟨j, by omega, by omega, h3⟩
    · rintro (h | ⟨j, h1, h2, h3⟩)
      · exact Or.inl (Or.inl h)
      · by_cases q : j = s
        · rw [q] at h3; exact Or.inl (Or.inr h3)
        · exact Or.inr ⟨j, by omega, by omega, h3⟩
theorem cr_fit (h : cr_S0 N f) (hA : A < 2 ^ cs_k N) {c : Int32} (hc : cr_c (cs_k N) c) : cm_fi c A 19 1 false = true ↔ ¬ (c &&& cs_ch N (nI A)) = 0 := by
  have k9 := h.2.1.2.2
  have p9 := cb_pow9 k9
  rw [cm_fi_iff, cb_meet]
  constructor
  · rintro (q | ⟨j, h1, h2, hb, h10, he⟩)
    · cases q
    · refine ⟨j, by omega, hb, ?_⟩
      rcases hc.1 j (by omega) hb with q | q
      · rw [cs_ch_lo h hA q.1 q.2]
        rw [bt_nI (by omega), show j % 10 - 1 = j - 1 by omega, show cb_wa j = nI 1 from if_pos (by omega)] at he
        cases z : A.testBit (j - 1) with
        | true => rfl
        | false => rw [z] at he; exact absurd he (by decide)
      · rw [cs_ch_hi h hA q.1 q.2]
        rw [bt_nI (by omega), show j % 10 - 1 = j - 11 by omega, show cb_wa j = nI 0 from if_neg (by omega)] at he
        cases z : A.testBit (j - 11) with
        | false => rfl
        | true => rw [z] at he; exact absurd he (by decide)
  · rintro ⟨j, hj, hb, he⟩
    right
    rcases hc.1 j hj hb with q | q
    · refine ⟨j, q.1, by omega, hb, by omega, ?_⟩
      rw [cs_ch_lo h hA q.1 q.2] at he
      rw [bt_nI (by omega), show j % 10 - 1 = j - 1 by omega, show cb_wa j = nI 1 from if_pos (by omega), he]
      rfl
    · refine ⟨j, by omega, by omega, hb, by omega, ?_⟩
      rw [cs_ch_hi h hA q.1 q.2] at he
      rw [bt_nI (by omega), show j % 10 - 1 = j - 11 by omega, show cb_wa j = nI 0 from if_neg (by omega)]
      cases z : A.testBit (j - 11) with
      | false => rfl
      | true => rw [z] at he; cases he
theorem cs_tbb_bt (S : cs_S) (x : Int32) {i : Nat} (hi : i < 32) : ∀ n k a, k + n ≤ 32 → (bt (cs_tbb S x n k a) i = true ↔ bt a i = true ∨ (k ≤ i ∧ i < k + n ∧ (cs_cl S i &&& x) = 0))
  | 0, k, a, _ => ⟨Or.inl, fun h => h.elim id (fun ⟨h1, h2, _⟩ => absurd h2 (by omega))⟩
  | n + 1, k, a, hk => by
    unfold cs_tbb
    rw [cs_tbb_bt S x hi n (k + 1) _ (by omega)]
    by_cases c : (cs_cl S k &&& x) = 0
    · rw [if_pos c, b_or, cb_one (by omega) hi, Bool.or_eq_true, decide_eq_true_iff]
      constructor
      · rintro ((h | h) | ⟨h1, h2, h3⟩)
        · exact Or.inl h
        · rw [h]; exact Or.inr ⟨Nat.le_refl _, by omega, c⟩
        · exact Or.inr ⟨by omega, by omega, h3⟩
      · rintro (h | ⟨h1, h2, h3⟩)
        · exact Or.inl (Or.inl h)
        · by_cases q : i = k
          · exact Or.inl (Or.inr q)
          · exact Or.inr ⟨by omega, by omega, h3⟩
    · rw [if_neg c]
      constructor
      · rintro (h | ⟨h1, h2, h3⟩)
        · exact Or.inl h
        · exact Or.inr ⟨by omega, by omega, h3⟩
      · rintro (h | ⟨h1, h2, h3⟩)
        · exact Or.inl h
        · by_cases q : i = k
          · rw [q] at h3; exact absurd h3 c
          · exact Or.inr ⟨by omega, by omega, h3⟩
theorem cs_brk_bt (h : cr_S0 N f) {i : Nat} (hi : i < 32) : bt (cs_brk N A) i = true ↔ i < cs_t N ∧ (cs_cl N i &&& cs_ch N (nI A)) = 0 := by
  have t20 := h.1.2
  unfold cs_brk
  rw [cs_tbb_bt N _ hi _ _ _ (by omega), show nI 0 = (0 : Int32) from rfl, b_0]
  constructor
  · rintro (q | ⟨_, h2, h3⟩)
    · cases q
    · exact ⟨by omega, h3⟩
  · rintro ⟨h2, h3⟩
    exact Or.inr ⟨Nat.zero_le _, by omega, h3⟩
theorem cs_brk_lo (h : cr_S0 N f) {i : Nat} (ht : cs_t N ≤ i) (hi : i < 32) : bt (cs_brk N A) i = false := by
  cases q : bt (cs_brk N A) i with
  | false => rfl
  | true => exact absurd ((cs_brk_bt h hi).mp q).1 (by omega)
theorem cm_ia_iff (f : Nat → Int32) (A : Nat) (but : Int32) : ∀ n k, cm_ia f A but n k = true ↔ ∀ j, k ≤ j → j < k + n → nI j = but ∨ cm_fi (f (49 + j)) A 19 1 false = true
  | 0, k => ⟨fun _ j h1 h2 => absurd h2 (by omega), fun _ => rfl⟩
  | n + 1, k => by
    unfold cm_ia
    rw [Bool.and_eq_true, Bool.or_eq_true, decide_eq_true_iff, cm_ia_iff f A but n (k + 1)]
    constructor
    · rintro ⟨a, b⟩ j h1 h2
      by_cases q : j = k
      · rw [q]; exact a
      · exact b j (by omega) (by omega)
    · intro a
      exact ⟨a k (Nat.le_refl _) (by omega), fun j h1 h2 => a j (by omega) (by omega)⟩
theorem cr_isa (h : cr_S0 N f) (hA : A < 2 ^ cs_k N) (but : Int32) : cm_isa f (cs_t N) A but = true ↔ ∀ j, j < cs_t N → nI j = but ∨ bt (cs_brk N A) j = false := by
  have t20 := h.1.2
  have e : ∀ j, j < cs_t N → (cm_fi (f (49 + j)) A 19 1 false = true ↔ bt (cs_brk N A) j = false) := fun j hj => by
    rw [(h.2.2.2.2.2 j hj).2, cr_fit h hA (h.2.2.2.2.2 j hj).1]
    have q := cs_brk_bt (A := A) h (i := j) (by omega)
    constructor
    · intro a
      cases z : bt (cs_brk N A) j with
      | false => rfl
      | true => exact absurd (q.mp z).2 a
    · intro a b
      rw [q.mpr ⟨hj, b⟩] at a
      cases a
  unfold cm_isa
  rw [cm_ia_iff]
  constructor
  · intro a j hj
    rcases a j (Nat.zero_le _) (by omega) with q | q
    · exact Or.inl q
    · exact Or.inr ((e j hj).mp q)
  · intro a j _ hj
    rcases a j (by omega) with q | q
    · exact Or.inl q
    · exact Or.inr ((e j (by omega)).mpr q)
theorem cb_nI6 : ∀ j, j ≤ 60 → nI j ≠ -nI 6 := by decide +kernel
theorem cr_isn (h : cr_S0 N f) (hA : A < 2 ^ cs_k N) : cm_isa f (cs_t N) A (-nI 6) = true ↔ cs_brk N A = 0 := by
  have t20 := h.1.2
  rw [cr_isa h hA]
  constructor
  · intro a
    refine b_ext (fun i hi => ?_)
    rw [b_0]
    by_cases q : i < cs_t N
    · exact (a i q).resolve_left (cb_nI6 i (by omega))
    · exact cs_brk_lo h (by omega) hi
  · intro a j hj
    right
    rw [a, b_0]
theorem cr_an (h : cr_S0 N f) : ∀ n A m, A + n ≤ 2 ^ cs_k N → cs_an N n A m = cm_ab f (cs_t N) (-nI 6) n A m
  | 0, _, _, _ => rfl
  | n + 1, A, m, e => by
    unfold cs_an cm_ab
    have q := cr_isn (A := A) h (by omega)
    by_cases c : cs_brk N A = 0
    · rw [if_pos c, if_pos (q.mpr c)]; exact cr_an h n (A + 1) _ (by omega)
    · rw [if_neg c, if_neg (fun z => c (q.mp z))]; exact cr_an h n (A + 1) _ (by omega)
theorem cr_aw (h : cr_S0 N f) {x : Nat} (h1 : 1 ≤ x) (hx : x ≤ cs_k N) : ∀ n A a b, A + n ≤ 2 ^ cs_k N → cm_io2 f (cs_t N) x n A a b = (cs_aw N (nI x) n A a, cs_an N n A b)
  | 0, _, _, _, _ => rfl
  | n + 1, A, a, b, e => by
    have k9 := h.2.1.2.2
    have p9 := cb_pow9 k9
    have q := cr_isn (A := A) h (by omega)
    have hb : cb_hs (cs_ch N (nI A)) (nI x) = bt (nI A) (x - 1) := by
      rw [cb_hs_bt (by omega), cs_ch_lo h (by omega) h1 hx, bt_nI (by omega)]
    unfold cm_io2 cs_aw cs_an
    rw [cr_aw h h1 hx n (A + 1) _ _ (by omega), hb]
    by_cases c : cs_brk N A = 0
    · rw [if_pos c, if_pos (q.mpr c)]
      by_cases d : bt (nI A) (x - 1) = true
      · rw [if_pos ⟨q.mpr c, d⟩, if_pos ⟨d, c⟩]
      · rw [if_neg (fun z => d z.2), if_neg (fun z => d z.1)]
    · rw [if_neg c, if_neg (fun z => c (q.mp z)), if_neg (fun z => c (q.mp z.1)), if_neg (fun z => c z.2)]
theorem cr_fl2 (h : cr_S0 N f) {c : Int32} (hc : cr_c (cs_k N) c) : ∀ n A b, A + n ≤ 2 ^ cs_k N → cm_fl f (cs_t N) c n A b = (b && cs_fl N c n A)
  | 0, _, b, _ => (Bool.and_true b).symm
  | n + 1, A, b, e => by
    have q := cr_isn (A := A) h (by omega)
    have q2 := cr_fit (A := A) h (by omega) hc
    unfold cm_fl cs_fl
    rw [cr_fl2 h hc n (A + 1) _ (by omega)]
    by_cases d : (c &&& cs_ch N (nI A)) = 0 ∧ cs_brk N A = 0
    · rw [if_pos d, q.mpr d.2, Bool.eq_false_iff.mpr (fun z => q2.mp z d.1)]
      simp
    · rw [if_neg d]
      have z : (!cm_isa f (cs_t N) A (-nI 6) || cm_fi c A 19 1 false) = true := by
        by_cases d2 : cs_brk N A = 0
        · rw [q2.mpr (fun w => d ⟨w, d2⟩), Bool.or_true]
        · rw [Bool.eq_false_iff.mpr (fun w => d2 (q.mp w))]; rfl
      rw [z, Bool.and_true]
theorem cm_ab_cmp (f : Nat → Int32) (t : Nat) {p q : Int32} (hpq : ∀ B, cm_isa f t B p = true → cm_isa f t B q = true) : ∀ n A m m', m ≤ m' → (cm_ab f t q n A m' = cm_ab f t p n A m ↔ m = m' ∧ ∀ B, A ≤ B → B < A + n → cm_isa f t B q = true → cm_isa f t B p = true)
  | 0, A, m, m', _ => ⟨fun e => ⟨Eq.symm e, fun B h1 h2 => absurd h2 (by omega)⟩, fun e => e.1.symm⟩
  | n + 1, A, m, m', hm => by
    have hA := hpq A
    unfold cm_ab
    by_cases c : cm_isa f t A q = true
    · rw [if_pos c]
      by_cases d : cm_isa f t A p = true
      · rw [if_pos d, cm_ab_cmp f t hpq n (A + 1) _ _ (by omega)]
        constructor
        · rintro ⟨a, b⟩
          refine ⟨by omega, fun B h1 h2 h3 => ?_⟩
          by_cases z : B = A
          · rw [z]; exact d
          · exact b B (by omega) (by omega) h3
        · rintro ⟨a, b⟩
          exact ⟨by omega, fun B h1 h2 h3 => b B (by omega) (by omega) h3⟩
      · rw [if_neg d, cm_ab_cmp f t hpq n (A + 1) _ _ (by omega)]
        constructor
        · rintro ⟨a, b⟩
          exact absurd a (by omega)
        · rintro ⟨a, b⟩
          exact absurd (b A (Nat.le_refl _) (by omega) c) d
    · rw [if_neg c, if_neg (fun z => c (hA z)), cm_ab_cmp f t hpq n (A + 1) _ _ (by omega)]
      constructor
      · rintro ⟨a, b⟩
        refine ⟨by omega, fun B h1 h2 h3 => ?_⟩
        by_cases z : B = A
        · rw [z] at h3; exact absurd h3 c
        · exact b B (by omega) (by omega) h3
      · rintro ⟨a, b⟩
        exact ⟨by omega, fun B h1 h2 h3 => b B (by omega) (by omega) h3⟩
theorem cm_nd_bt (f : Nat → Int32) (t th : Nat) {i : Nat} (hi : i < 32) : ∀ n k a, k + n ≤ 32 → (bt (cm_nd f t th n k a) i = true ↔ bt a i = true ∨ (k ≤ i ∧ i < k + n ∧ cm_ab f t (nI i) (2 ^ th) 0 0 = cm_ab f t (-nI 6) (2 ^ th) 0 0))
  | 0, k, a, _ => ⟨Or.inl, fun h => h.elim id (fun ⟨h1, h2, _⟩ => absurd h2 (by omega))⟩
  | n + 1, k, a, hk => by
    unfold cm_nd
    rw [cm_nd_bt f t th hi n (k + 1) _ (by omega), b_or, Bool.or_eq_true]
    by_cases c : cm_ab f t (nI k) (2 ^ th) 0 0 = cm_ab f t (-nI 6) (2 ^ th) 0 0
    · rw [if_pos c, cb_one (by omega) hi, decide_eq_true_iff]
      constructor
      · rintro ((h | h) | ⟨h1, h2, h3⟩)
        · exact Or.inl h
        · rw [h]; exact Or.inr ⟨Nat.le_refl _, by omega, c⟩
        · exact Or.inr ⟨by omega, by omega, h3⟩
      · rintro (h | ⟨h1, h2, h3⟩)
        · exact Or.inl (Or.inl h)
        · by_cases q : i = k
          · exact Or.inl (Or.inr q)
          · exact Or.inr ⟨by omega, by omega, h3⟩
    · rw [if_neg c, show nI 0 = (0 : Int32) from rfl, b_0]
      constructor
      · rintro ((h | h) | ⟨h1, h2, h3⟩)
        · exact Or.inl h
        · cases h
        · exact Or.inr ⟨by omega, by omega, h3⟩
      · rintro (h | ⟨h1, h2, h3⟩)
        · exact Or.inl (Or.inl h)
        · by_cases q : i = k
          · rw [q] at h3; exact absurd h3 c
          · exact Or.inr ⟨by omega, by omega, h3⟩
theorem cs_nd_bt (N : cs_S) (i : Nat) : ∀ n A a, (bt (cs_nd N n A a) i = true ↔ bt a i = true ∨ ∃ B, A ≤ B ∧ B < A + n ∧ cb_bc (cs_brk N B) = nI 1 ∧ bt (cs_brk N B) i = true)
  | 0, A, a => ⟨Or.inl, fun h => h.elim id (fun ⟨B, h1, h2, _⟩ => absurd h2 (by omega))⟩
  | n + 1, A, a => by
    unfold cs_nd
    rw [cs_nd_bt N i n (A + 1)]
    by_cases c : cb_bc (cs_brk N A) = nI 1
    · rw [if_pos c, b_or, Bool.or_eq_true]
      constructor
      · rintro ((h | h) | ⟨B, h1, h2, h3⟩)
        · exact Or.inl h
        · exact Or.inr ⟨A, Nat.le_refl _, by omega, c, h⟩
        · exact Or.inr ⟨B, by omega, by omega, h3⟩
      · rintro (h | ⟨B, h1, h2, h3⟩)
        · exact Or.inl (Or.inl h)
        · by_cases q : B = A
          · rw [q] at h3; exact Or.inl (Or.inr h3.2)
          · exact Or.inr ⟨B, by omega, by omega, h3⟩
    · rw [if_neg c]
      constructor
      · rintro (h | ⟨B, h1, h2, h3⟩)
        · exact Or.inl h
        · exact Or.inr ⟨B, by omega, by omega, h3⟩
      · rintro (h | ⟨B, h1, h2, h3⟩)
        · exact Or.inl h
        · by_cases q : B = A
          · rw [q] at h3; exact absurd h3.1 c
          · exact Or.inr ⟨B, by omega, by omega, h3⟩
theorem cb_all1 : ∀ t, t ≤ 20 → (nI 1 <<< (nI t &&& 31)) - nI 1 = nI (2 ^ t - 1) := by decide +kernel
theorem cs_brk_1 (h : cr_S0 N f) {i : Nat} (hi : i < cs_t N) : (cb_bc (cs_brk N A) = nI 1 ∧ bt (cs_brk N A) i = true) ↔ bt (cs_brk N A) i = true ∧ ∀ j, j < cs_t N → j ≠ i → bt (cs_brk N A) j = false := by
  have t20 := h.1.2
  have lo : cn_lo (cs_brk N A) := fun j h1 h2 => cs_brk_lo h (by omega) h2
  have le := fb_ct_le (bt (cs_brk N A)) 20
  rw [cb_pop lo]
  constructor
  · rintro ⟨a, b⟩
    have e := (nI_eq (by omega) (by omega)).mp a
    refine ⟨b, fun j hj hji => ?_⟩
    cases q : bt (cs_brk N A) j with
    | false => rfl
    | true =>
      have two := fb_two.mp (Nat.le_of_eq e)
      rcases Nat.lt_or_ge i j with z | z
      · exact absurd ⟨b, q⟩ (two i j z (by omega))
      · exact absurd ⟨q, b⟩ (two j i (by omega) (by omega))
  · rintro ⟨a, b⟩
    refine ⟨congrArg nI ?_, a⟩
    have p : 0 < fb_ct (bt (cs_brk N A)) 20 := fb_ct_pos.mpr ⟨i, by omega, a⟩
    have q : fb_ct (bt (cs_brk N A)) 20 ≤ 1 := fb_two.mpr (fun x y hxy hy z => by
      have hx : x = i := Classical.byContradiction (fun w => by
        by_cases xt : x < cs_t N
        · rw [b x xt w] at z; cases z.1
        · rw [cs_brk_lo h (by omega) (by omega)] at z; cases z.1)
      have hy2 : y = i := Classical.byContradiction (fun w => by
        by_cases xt : y < cs_t N
        · rw [b y xt w] at z; cases z.2
        · rw [cs_brk_lo (i := y) h (by omega) (by omega)] at z; cases z.2)
      omega)
    omega
theorem cr_nd (h : cr_S0 N f) : ((nI 1 <<< (cs_to N &&& 31)) - nI 1) &&& (cs_nd N (2 ^ cs_k N) 0 (nI 0) ^^^ (-nI 1)) = cm_nd f (cs_t N) (cs_k N) (cs_t N) 0 (nI 0) := by
  have t20 := h.1.2
  refine b_ext (fun i hi => ?_)
  have p20 : 2 ^ cs_t N ≤ 2 ^ 20 := Nat.pow_le_pow_right (by omega) t20
  have key : i < cs_t N → ((¬ ∃ B, 0 ≤ B ∧ B < 0 + 2 ^ cs_k N ∧ cb_bc (cs_brk N B) = nI 1 ∧ bt (cs_brk N B) i = true) ↔ cm_ab f (cs_t N) (nI i) (2 ^ cs_k N) 0 0 = cm_ab f (cs_t N) (-nI 6) (2 ^ cs_k N) 0 0) := fun hit => by
    have hpq : ∀ B, cm_isa f (cs_t N) B (-nI 6) = true → cm_isa f (cs_t N) B (nI i) = true := fun B z => by
      unfold cm_isa at z ⊢
      rw [cm_ia_iff] at z ⊢
      intro j h1 h2
      exact Or.inr ((z j h1 h2).resolve_left (cb_nI6 j (by omega)))
    rw [cm_ab_cmp f (cs_t N) hpq _ _ _ _ (Nat.le_refl 0)]
    constructor
    · intro a
      refine ⟨rfl, fun B _ hB z => ?_⟩
      rw [cr_isa h (by omega)] at z ⊢
      intro j hj
      right
      by_cases q : j = i
      · rw [q]
        cases w : bt (cs_brk N B) i with
        | false => rfl
        | true =>
          exact absurd ⟨B, Nat.zero_le _, hB, (cs_brk_1 h hit).mpr ⟨w, fun j' hj' hne => (z j' hj').resolve_left (fun e => hne ((nI_eq (by omega) (by omega)).mp e))⟩⟩ a
      · exact (z j hj).resolve_left (fun e => q ((nI_eq (by omega) (by omega)).mp e))
    · rintro ⟨-, a⟩ ⟨B, _, hB, w⟩
      have w2 := (cs_brk_1 h hit).mp w
      have z := a B (Nat.zero_le _) hB ((cr_isa h (by omega) _).mpr (fun j hj => by
        by_cases q : j = i
        · exact Or.inl (by rw [q])
        · exact Or.inr (w2.2 j hj q)))
      have z2 := ((cr_isa h (by omega) _).mp z i hit).resolve_left (cb_nI6 i (by omega))
      rw [w2.1] at z2
      cases z2
  have b1 : bt ((nI 1 <<< (cs_to N &&& 31)) - nI 1) i = decide (i < cs_t N) := by
    rw [h.1.1, cb_all1 _ t20, bt_nI (by omega), Nat.testBit_two_pow_sub_one]
  have b2 : bt (cs_nd N (2 ^ cs_k N) 0 (nI 0) ^^^ (-nI 1)) i = !bt (cs_nd N (2 ^ cs_k N) 0 (nI 0)) i := by
    rw [b_xor, cb_m1bt i hi]
    exact Bool.xor_true _
  have b3 := cs_nd_bt N i (2 ^ cs_k N) 0 (nI 0)
  have b4 := cm_nd_bt f (cs_t N) (cs_k N) hi (cs_t N) 0 (nI 0) (by omega)
  rw [show nI 0 = (0 : Int32) from rfl, b_0] at b3 b4
  rw [b_and, b1, show nI 0 = (0 : Int32) from rfl]
  rw [show nI 0 = (0 : Int32) from rfl] at b2
  rw [b2]
  rw [Bool.eq_iff_iff, Bool.and_eq_true, decide_eq_true_iff, b4, Bool.not_eq_true', Bool.eq_false_iff]
  constructor
  · rintro ⟨hit, a⟩
    exact Or.inr ⟨Nat.zero_le _, by omega, (key hit).mp (fun z => a (b3.mpr (Or.inr z)))⟩
  · rintro (q | ⟨_, hit, a⟩)
    · cases q
    · refine ⟨by omega, fun z => ?_⟩
      rcases b3.mp z with z | z
      · cases z
      · exact (key (by omega)).mpr a z
end CHO
