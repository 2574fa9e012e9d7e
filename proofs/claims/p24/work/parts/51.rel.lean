/-! p24: what holds between the class's search and the law's rows -/
def pr_c (c o z : Int32) : Prop := ∀ i, i < 32 → (bt o i = true ↔ i < 10 ∧ bt c i = true) ∧ (bt z i = true ↔ bt c (i + 10) = true)
def pr_q (y : Int32) (S : cs_S) (q : Nat → Int32) : Prop := q 0 = cs_th S ∧ q 1 = cs_re S ∧ q 2 = cs_fi S ∧ q 3 = cs_to S ∧ q 4 = cs_le S ∧ q 5 = cs_sd S ∧ q 6 = cs_pl S (cs_g S) ∧ q 7 = cs_gi S ∧ q 8 = cs_co S ∧ q 9 = y
def pr_k (S : cs_S) (on ze : Nat → Int32) : Prop := ∀ k, k < cs_t S + cs_n S → pr_c (cs_cl S k) (on k) (ze k)
def pr_t (S : cs_S) (le re tr : Nat → Int32) : Prop := ∀ k, k < cs_g S → tr k = nI (cs_s S k % 10) ∧ le (cs_s S k % 10) = cs_lv S k ∧ re (cs_s S k % 10) = cs_rs S k
def pr (y : Int32) (S : cs_S) (q on ze le re tr : Nat → Int32) : Prop := pr_q y S q ∧ pr_c (cs_va S) (q 10) (q 11) ∧ pr_k S on ze ∧ pr_t S le re tr
theorem pr_meet {c v o z a b : Int32} (h1 : pr_c c o z) (h2 : pr_c v a b) (hc : ∀ i, i < 32 → bt c i = true → cr_sg 9 i) : ((o &&& a) ||| (z &&& b)) = 0 ↔ (c &&& v) = 0 := by
  rw [cb_zero, cb_zero]
  constructor
  · intro h i hi
    cases w : bt (c &&& v) i with
    | false => rfl
    | true =>
      rw [b_and, Bool.and_eq_true] at w
      have hs := cr_sg9 (Nat.le_refl 9) (hc i hi w.1)
      exfalso
      by_cases q : i < 10
      · have := h i hi
        rw [b_or, b_and, b_and, ((h1 i hi).1).mpr ⟨q, w.1⟩, ((h2 i hi).1).mpr ⟨q, w.2⟩] at this
        cases this
      · obtain ⟨j, rfl⟩ : ∃ j, i = j + 10 := ⟨i - 10, by omega⟩
        have := h j (by omega)
        rw [b_or, b_and, b_and, ((h1 j (by omega)).2).mpr w.1, ((h2 j (by omega)).2).mpr w.2, Bool.and_self, Bool.or_true] at this
        cases this
  · intro h i hi
    rw [b_or, b_and, b_and]
    have e1 : (bt o i && bt a i) = false := by
      cases w : (bt o i && bt a i) with
      | false => rfl
      | true =>
        rw [Bool.and_eq_true] at w
        have := h i hi
        rw [b_and, (((h1 i hi).1).mp w.1).2, (((h2 i hi).1).mp w.2).2] at this
        cases this
    have e2 : (bt z i && bt b i) = false := by
      cases w : (bt z i && bt b i) with
      | false => rfl
      | true =>
        rw [Bool.and_eq_true] at w
        have u1 := ((h1 i hi).2).mp w.1
        have u2 := ((h2 i hi).2).mp w.2
        have h32 : i + 10 < 32 := by
          rcases Nat.lt_or_ge (i + 10) 32 with q | q
          · exact q
          · rw [b_big q] at u1; cases u1
        have := h (i + 10) h32
        rw [b_and, u1, u2] at this
        cases this
    rw [e1, e2]; rfl
theorem bt_1 : ∀ i, i < 32 → bt (nI 1) i = decide (i = 0) := by decide +kernel
/-- the bit at a place, as the law asks for it -/
theorem pl_b1 {t : Nat} (ht : t < 32) (x : Int32) : (x >>> (nI t &&& 31)) &&& nI 1 = cb_n (bt x t) := by
  apply b_ext
  intro i hi
  rw [b_and, b_sshr t ht _ hi, bt_1 i hi]
  by_cases e : i = 0
  · subst e
    rw [Nat.add_zero, if_pos ht, decide_eq_true rfl, Bool.and_true]
    cases bt x t with
    | true => exact (bt_1 0 (by omega)).symm
    | false => exact (b_0 0).symm
  · rw [decide_eq_false e, Bool.and_false]
    cases bt x t with
    | true => exact ((bt_1 i hi).trans (decide_eq_false e)).symm
    | false => exact (b_0 i).symm
section PRR
variable {y : Int32} {S : cs_S} {q on ze le re tr : Nat → Int32}
theorem pr_sg (h : cr_I S) {c : Int32} (hc : cr_c (cs_k S) c) : ∀ i, i < 32 → bt c i = true → cr_sg 9 i := fun i hi b => cr_sg_mono (cr_k9 h) (hc.1 i hi b)
theorem pr_tr (h : cr_I S) (hr : pr y S q on ze le re tr) {k : Nat} (hk : k < cs_t S + cs_n S) : pl_tr q on ze k = cs_tr S (cs_cl S k) := by
  unfold pl_tr cs_tr
  have e := pr_meet (hr.2.2.1 k hk) hr.2.1 (pr_sg h (h.2.1 k hk))
  by_cases c : (cs_cl S k &&& cs_va S) = 0
  · exact (decide_eq_false (fun z => z (e.mpr c))).trans (decide_eq_false (fun z => z c)).symm
  · exact (decide_eq_true (show ¬ ((on k &&& q 10) ||| (ze k &&& q 11)) = 0 from fun z => c (e.mp z))).trans (decide_eq_true c).symm
/-- open things -/
theorem pr_op_bt (h : cr_I S) {c o z a b : Int32} (hc : cr_c (cs_k S) c) (h1 : pr_c c o z) (h2 : pr_c (cs_va S) a b) {t : Nat} (ht : t < 32) : bt ((o ||| z) &&& ((a ||| b) ^^^ (-nI 1))) t = true ↔ t < 10 ∧ (bt (cs_op S c) t = true ∨ bt (cs_op S c) (t + 10) = true) := by
  have hsg := pr_sg h hc
  rw [b_and, b_or, b_xor, b_or, b_m1' t ht, Bool.and_eq_true, Bool.or_eq_true, (h1 t ht).1, (h1 t ht).2]
  have nv : ((bt a t || bt b t) ^^ true) = true ↔ ¬ (t < 10 ∧ bt (cs_va S) t = true) ∧ ¬ bt (cs_va S) (t + 10) = true := by
    rw [← (h2 t ht).1, ← (h2 t ht).2]
    cases bt a t <;> cases bt b t <;> simp
  rw [nv]
  constructor
  · rintro ⟨hcl, hv1, hv2⟩
    have t10 : t < 10 := by
      rcases hcl with q | q
      · exact q.1
      · rcases Nat.lt_or_ge (t + 10) 32 with z | z
        · have := cr_sg9 (Nat.le_refl 9) (hsg _ z q)
          omega
        · rw [b_big z] at q; cases q
    have v1 : bt (cs_va S) t = false := by
      cases w : bt (cs_va S) t with
      | false => rfl
      | true => exact absurd ⟨t10, w⟩ hv1
    have v2 : bt (cs_va S) (t + 10) = false := by
      cases w : bt (cs_va S) (t + 10) with
      | false => rfl
      | true => exact absurd w hv2
    refine ⟨t10, ?_⟩
    rcases hcl with q | q
    · left
      refine (cr_op_bt h hc ht).mpr ⟨q.2, v1, ?_⟩
      unfold cr_op
      rw [if_pos t10]; exact v2
    · right
      refine (cr_op_bt h hc (by omega)).mpr ⟨q, v2, ?_⟩
      unfold cr_op
      rw [if_neg (by omega), Nat.add_sub_cancel]; exact v1
  · rintro ⟨t10, q⟩
    rcases q with q | q
    · obtain ⟨q1, q2, q3⟩ := (cr_op_bt h hc ht).mp q
      unfold cr_op at q3
      rw [if_pos t10] at q3
      exact ⟨Or.inl ⟨t10, q1⟩, (fun z => absurd z.2 (by rw [q2]; decide)), (fun z => absurd z (by rw [q3]; decide))⟩
    · obtain ⟨q1, q2, q3⟩ := (cr_op_bt h hc (by omega)).mp q
      unfold cr_op at q3
      rw [if_neg (by omega), Nat.add_sub_cancel] at q3
      exact ⟨Or.inr q1, (fun z => absurd z.2 (by rw [q3]; decide)), (fun z => absurd z (by rw [q2]; decide))⟩
theorem pr_op_ct (h : cr_I S) {c o z a b : Int32} (hc : cr_c (cs_k S) c) (h1 : pr_c c o z) (h2 : pr_c (cs_va S) a b) : fb_ct (bt ((o ||| z) &&& ((a ||| b) ^^^ (-nI 1)))) 10 = fb_ct (bt (cs_op S c)) 20 := by
  have e : fb_ct (bt ((o ||| z) &&& ((a ||| b) ^^^ (-nI 1)))) 10 = fb_ct (fun k => bt (cs_op S c) k || bt (cs_op S c) (10 + k)) 10 := fb_ct_cong (fun k hk => by
    have e1 := pr_op_bt h hc h1 h2 (t := k) (by omega)
    rw [Nat.add_comm k 10] at e1
    cases w : bt ((o ||| z) &&& ((a ||| b) ^^^ (-nI 1))) k with
    | true =>
      rcases (e1.mp w).2 with q | q
      · rw [q]; rfl
      · rw [q, Bool.or_true]
    | false =>
      cases w2 : (bt (cs_op S c) k || bt (cs_op S c) (10 + k)) with
      | false => rfl
      | true =>
        rw [Bool.or_eq_true] at w2
        rw [e1.mpr ⟨hk, w2⟩] at w
        cases w)
  rw [e, show 20 = 10 + 10 from rfl, fb_ct_split]
  refine fb_ct_or (fun k hk => ?_)
  rintro ⟨a1, a2⟩
  have c1 := ((cr_op_bt h hc (i := k) (by omega)).mp a1).1
  have c2 := ((cr_op_bt h hc (i := 10 + k) (by omega)).mp a2).1
  have hs := cr_sg9 (Nat.le_refl 9) (pr_sg h hc k (by omega) c1)
  exact hc.2 k (by omega) (by omega) ⟨c1, by rw [Nat.add_comm]; exact c2⟩
theorem pr_opx (h : cr_I S) (hr : pr y S q on ze le re tr) {k : Nat} (hk : k < cs_t S + cs_n S) : (∀ i, 10 ≤ i → i < 32 → bt (pl_op q on ze k) i = false) ∧ fb_ct (bt (pl_op q on ze k)) 10 = fb_ct (bt (cs_op S (cs_cl S k))) 20 ∧ cb_bc (cs_op S (cs_cl S k)) = nI (fb_ct (bt (cs_op S (cs_cl S k))) 20) := by
  have hc := h.2.1 k hk
  refine ⟨fun i h1 h2 => ?_, pr_op_ct h hc (hr.2.2.1 k hk) hr.2.1, cb_pop (fun i h1 h2 => ?_)⟩
  · cases w : bt (pl_op q on ze k) i with
    | false => rfl
    | true => have := ((pr_op_bt h hc (hr.2.2.1 k hk) hr.2.1 h2).mp w).1; omega
  · cases w : bt (cs_op S (cs_cl S k)) i with
    | false => rfl
    | true =>
      have := cr_sg9 (Nat.le_refl 9) (pr_sg h hc i h2 ((cr_op_bt h hc h2).mp w).1)
      omega
/-- no open thing -/
theorem pr_op0 (h : cr_I S) (hr : pr y S q on ze le re tr) {k : Nat} (hk : k < cs_t S + cs_n S) : pl_op q on ze k = 0 ↔ cb_bc (cs_op S (cs_cl S k)) = nI 0 := by
  obtain ⟨e1, e2, e3⟩ := pr_opx h hr hk
  have hle := fb_ct_le (bt (cs_op S (cs_cl S k))) 20
  rw [e3, nI_eq (by omega) (by omega), ← e2, fb_ct_zero, cb_zero]
  constructor
  · intro z i hi; exact z i (by omega)
  · intro z i hi
    rcases Nat.lt_or_ge i 10 with w | w
    · exact z i w
    · exact e1 i w hi
theorem pr_x (h : cr_I S) (hr : pr y S q on ze le re tr) : ∀ k, k < cs_g S → tr k = nI (cs_s S k % 10) ∧ cs_s S k % 10 ≤ 9 := fun k hk => ⟨(hr.2.2.2 k hk).1, by omega⟩
theorem pr_g7 (h : cr_I S) (hr : pr y S q on ze le re tr) : q 7 = nI (cs_g S) := hr.1.2.2.2.2.2.2.2.1.trans h.1.1.1.1
/-- is a thing valued? -/
theorem pr_val (h : cr_I S) (hr : pr y S q on ze le re tr) {t : Nat} (h1 : 1 ≤ t) (ht : t ≤ 9) : bt (q 10 ||| q 11) t = true ↔ ∃ k, k < cs_g S ∧ cs_s S k % 10 = t := by
  have h9 := cr_k9 h
  rw [b_or, Bool.or_eq_true, (hr.2.1 t (by omega)).1, (hr.2.1 t (by omega)).2, h.2.2.1.2.2 t (by omega), h.2.2.1.2.2 (t + 10) (by omega)]
  constructor
  · rintro (⟨-, k, hk, e⟩ | ⟨k, hk, e⟩)
    · exact ⟨k, hk, by omega⟩
    · exact ⟨k, hk, by omega⟩
  · rintro ⟨k, hk, e⟩
    have hs := cr_sg9 h9 (h.2.2.1.1 k hk).2.1
    by_cases q : cs_s S k < 10
    · exact Or.inl ⟨by omega, k, hk, by omega⟩
    · exact Or.inr ⟨k, hk, by omega⟩
/-- going back, on the law's side -/
theorem pb_gbn (h : cr_I S) (hr : pr y S q on ze le re tr) (L : Int32) : ∀ g, g ≤ cs_g S → pb_n le (fun k => cs_s S k % 10) L g = cs_gbn S L g
  | 0, _ => rfl
  | g + 1, hg => by
    unfold pb_n cs_gbn
    rw [(hr.2.2.2 g (by omega)).2.1, pb_gbn h hr L g (by omega)]
theorem pr_gb (h : cr_I S) (hr : pr y S q on ze le re tr) {m : Nat} (hm : m ≤ cs_pv S (cs_g S)) (hl : cs_pl (cs_gb S (nI m)) (cs_g (cs_gb S (nI m))) = nI m) {q' re' : Nat → Int32} (hF : pb_F (nI m) (pb_n le (fun k => cs_s S k % 10) (nI m) (cs_g S)) (cs_g S) (fun k => cs_s S k % 10) q re q' re') : pr y (cs_gb S (nI m)) q' on ze le re' tr := by
  have h9 := cr_k9 h
  have g9 := cr_g9 h
  have hpv := cr_pv_le h
  rw [pb_gbn h hr _ _ (Nat.le_refl _)] at hF
  obtain ⟨f7, f6, fj, fb, fr⟩ := hF
  obtain ⟨⟨r0, r1, r2, r3, r4, r5, r6, r7, r8, r9⟩, rv, rk, rt⟩ := hr
  obtain ⟨a1, a2, a3⟩ := cs_gbn_spec h (m := m) (by omega) (cs_g S) (Nat.le_refl _)
  have fg : cs_g (cs_gb S (nI m)) = cs_gbn S (nI m) (cs_g S) := cs_g_nI (S := cs_gb S (nI m)) rfl (by omega)
  have hbv := fun i (hi : i < 32) => cs_gbv_bt h (nI m) hi (cs_g S) (cs_va S) (Nat.le_refl _)
  refine ⟨⟨(fj 0 (by omega) (by omega) (by omega) (by omega)).trans r0, (fj 1 (by omega) (by omega) (by omega) (by omega)).trans r1, (fj 2 (by omega) (by omega) (by omega) (by omega)).trans r2, (fj 3 (by omega) (by omega) (by omega) (by omega)).trans r3, (fj 4 (by omega) (by omega) (by omega) (by omega)).trans r4, (fj 5 (by omega) (by omega) (by omega) (by omega)).trans r5, f6.trans hl.symm, f7, (fj 8 (by omega) (by omega) (by omega) (by omega)).trans r8, (fj 9 (by omega) (by omega) (by omega) (by omega)).trans r9⟩, fun i hi => ⟨?_, ?_⟩, rk, fun k hk => ?_⟩
  · rw [(fb i hi).1, (rv i hi).1]
    show _ ↔ i < 10 ∧ bt (cs_gbv S (nI m) (cs_g S) (cs_va S)) i = true
    rw [hbv i hi]
    constructor
    · rintro ⟨⟨z1, z2⟩, z3⟩
      refine ⟨z1, z2, fun k h1 h2 e => z3 k h1 h2 ?_⟩
      show cs_s S k % 10 = i
      omega
    · rintro ⟨z1, z2, z3⟩
      refine ⟨⟨z1, z2⟩, fun k h1 h2 e => ?_⟩
      have e : cs_s S k % 10 = i := e
      obtain ⟨j, hj, ej⟩ := (h.2.2.1.2.2 i hi).mp z2
      have := cr_uni h hj h2 (by omega)
      subst this
      exact z3 j h1 h2 ej
  · rw [(fb i hi).2, (rv i hi).2]
    show _ ↔ bt (cs_gbv S (nI m) (cs_g S) (cs_va S)) (i + 10) = true
    rcases Nat.lt_or_ge (i + 10) 32 with w | w
    · rw [hbv (i + 10) w]
      constructor
      · rintro ⟨z2, z3⟩
        have := cr_sg9 h9 (cr_va_sg h w z2)
        refine ⟨z2, fun k h1 h2 e => z3 k h1 h2 ?_⟩
        show cs_s S k % 10 = i
        omega
      · rintro ⟨z2, z3⟩
        have := cr_sg9 h9 (cr_va_sg h w z2)
        refine ⟨z2, fun k h1 h2 e => ?_⟩
        have e : cs_s S k % 10 = i := e
        obtain ⟨j, hj, ej⟩ := (h.2.2.1.2.2 (i + 10) w).mp z2
        have := cr_uni h hj h2 (by omega)
        subst this
        exact z3 j h1 h2 ej
    · rw [b_big w, b_big w]; simp
  · rw [fg] at hk
    obtain ⟨t1, t2, t3⟩ := rt k (by omega)
    refine ⟨t1, t2, (fr _ (fun j h1 h2 e => ?_)).trans t3⟩
    have e : cs_s S j % 10 = cs_s S k % 10 := e
    have := cr_uni h h2 (show k < cs_g S by omega) e
    omega
/-- a value given, on the law's side; its level stands already -/
theorem pr_give (h : cr_I S) (hr : pr y S q on ze le re tr) {i m : Nat} {r : Int32} (hi : cr_sg (cs_k S) i) (hx : ∀ k, k < cs_g S → cs_s S k % 10 ≠ i % 10) (g8 : cs_g S ≤ 8) : pr y (cs_give S (nI i) (nI m) r) (pg_q (upd q 6 (nI m)) (i % 10) (decide (i < 10))) on ze (upd le (i % 10) (nI m)) (upd re (i % 10) r) (upd tr (cs_g S) (nI (i % 10))) := by
  have h9 := cr_k9 h
  have qi := cr_sg9 h9 hi
  have g7 := pr_g7 h hr
  obtain ⟨⟨r0, r1, r2, r3, r4, r5, r6, r7, r8, r9⟩, rv, rk, rt⟩ := hr
  have eg : cs_gi S + nI 1 = nI (cs_g S + 1) := by rw [h.1.1.1.1, nI_add]
  have e0 : cs_give S (nI i) (nI m) r = (S.1, S.2.1, S.2.2.1, S.2.2.2.1, S.2.2.2.2.1, S.2.2.2.2.2.1, cs_gi S + nI 1, upd (cs_sg S) (cs_g S) (nI i), upd (cs_lv S) (cs_g S) (nI m), upd (cs_rs S) (cs_g S) r, cs_va S ||| cb_set (nI i), S.2.2.2.2.2.2.2.2.2.2.2) := if_pos (by omega)
  rw [e0]
  obtain ⟨S', hS'⟩ : ∃ S', S' = ((S.1, S.2.1, S.2.2.1, S.2.2.2.1, S.2.2.2.2.1, S.2.2.2.2.2.1, cs_gi S + nI 1, upd (cs_sg S) (cs_g S) (nI i), upd (cs_lv S) (cs_g S) (nI m), upd (cs_rs S) (cs_g S) r, cs_va S ||| cb_set (nI i), S.2.2.2.2.2.2.2.2.2.2.2) : cs_S) := ⟨_, rfl⟩
  rw [← hS']
  have fg : cs_g S' = cs_g S + 1 := cs_g_nI (by rw [hS']; exact eg) (by omega)
  have ft : cs_t S' = cs_t S := by rw [hS']; rfl
  have fn : cs_n S' = cs_n S := by rw [hS']; rfl
  have fcl : cs_cl S' = cs_cl S := by rw [hS']
  have fsg : cs_sg S' = upd (cs_sg S) (cs_g S) (nI i) := by rw [hS']
  have flv : cs_lv S' = upd (cs_lv S) (cs_g S) (nI m) := by rw [hS']
  have frs : cs_rs S' = upd (cs_rs S) (cs_g S) r := by rw [hS']
  have fva : cs_va S' = cs_va S ||| cb_set (nI i) := by rw [hS']
  have s1 : ∀ k, k < cs_g S → cs_s S' k = cs_s S k := fun k hk => by unfold cs_s; rw [fsg, pk_un (by omega)]
  have s2 : cs_s S' (cs_g S) = i := by unfold cs_s; rw [fsg, pk_us, nI_clamp (by omega)]
  have hw : pg_w (decide (i < 10)) = 10 ∨ pg_w (decide (i < 10)) = 11 := by unfold pg_w; split <;> omega
  have qj : ∀ j, j ≠ 6 → j ≠ 7 → j ≠ 10 → j ≠ 11 → pg_q (upd q 6 (nI m)) (i % 10) (decide (i < 10)) j = q j := by
    intro j h6 h7 h10 h11
    unfold pg_q
    rw [pk_un (by omega), pk_un h7, pk_un h6]
  refine ⟨⟨?_, ?_, ?_, ?_, ?_, ?_, ?_, ?_, ?_, ?_⟩, fun j hj => ?_, fun k hk => ?_, fun k hk => ?_⟩
  · rw [qj 0 (by omega) (by omega) (by omega) (by omega), hS']; exact r0
  · rw [qj 1 (by omega) (by omega) (by omega) (by omega), hS']; exact r1
  · rw [qj 2 (by omega) (by omega) (by omega) (by omega), hS']; exact r2
  · rw [qj 3 (by omega) (by omega) (by omega) (by omega), hS']; exact r3
  · rw [qj 4 (by omega) (by omega) (by omega) (by omega), hS']; exact r4
  · rw [qj 5 (by omega) (by omega) (by omega) (by omega), hS']; exact r5
  · unfold pg_q cs_pl
    rw [pk_un (by omega), pk_un (by omega), pk_us, fg, if_neg (by omega), flv, Nat.add_sub_cancel, pk_us]
  · unfold pg_q
    rw [pk_un (by omega), pk_us, pk_un (by omega), g7, nI_add, hS']; exact eg.symm
  · rw [qj 8 (by omega) (by omega) (by omega) (by omega), hS']; exact r8
  · rw [qj 9 (by omega) (by omega) (by omega) (by omega)]; exact r9
  · have hset : ∀ {a : Nat}, a < 32 → bt (cb_set (nI i)) a = decide (a = i) := fun ha => cb_set_bt (by omega) ha
    have hx10 : bt (nI 1 <<< (nI (i % 10) &&& 31)) j = decide (j = i % 10) := cb_one (by omega) hj
    have big : ∀ _ : Nat, bt (cs_va S ||| cb_set (nI i)) (j + 10) = true ↔ bt (cs_va S) (j + 10) = true ∨ j + 10 = i := by
      intro _
      rw [b_or, Bool.or_eq_true]
      rcases Nat.lt_or_ge (j + 10) 32 with w | w
      · rw [hset w, decide_eq_true_eq]
      · rw [b_big w, b_big w]
        constructor
        · rintro (z | z) <;> cases z
        · rintro (z | z)
          · cases z
          · omega
    rw [fva]
    by_cases c : i < 10
    · have e10 : pg_q (upd q 6 (nI m)) (i % 10) (decide (i < 10)) 10 = q 10 ||| (nI 1 <<< (nI (i % 10) &&& 31)) := by
        unfold pg_q pg_w; rw [decide_eq_true c, if_pos rfl, pk_us, pk_un (by omega)]
      have e11 : pg_q (upd q 6 (nI m)) (i % 10) (decide (i < 10)) 11 = q 11 := by
        unfold pg_q pg_w; rw [decide_eq_true c, if_pos rfl, pk_un (by omega), pk_un (by omega), pk_un (by omega)]
      rw [e10, e11, big 0, b_or, b_or, hx10, hset hj, Bool.or_eq_true, Bool.or_eq_true, decide_eq_true_eq, decide_eq_true_eq, (rv j hj).1, (rv j hj).2, Nat.mod_eq_of_lt c]
      constructor
      · constructor
        · rintro (z | z)
          · exact ⟨z.1, Or.inl z.2⟩
          · exact ⟨by omega, Or.inr z⟩
        · rintro ⟨z1, z2 | z2⟩
          · exact Or.inl ⟨z1, z2⟩
          · exact Or.inr z2
      · constructor
        · exact Or.inl
        · rintro (z | z)
          · exact z
          · omega
    · have e10 : pg_q (upd q 6 (nI m)) (i % 10) (decide (i < 10)) 10 = q 10 := by
        unfold pg_q pg_w; rw [decide_eq_false c, if_neg (by decide), pk_un (by omega), pk_un (by omega), pk_un (by omega)]
      have e11 : pg_q (upd q 6 (nI m)) (i % 10) (decide (i < 10)) 11 = q 11 ||| (nI 1 <<< (nI (i % 10) &&& 31)) := by
        unfold pg_q pg_w; rw [decide_eq_false c, if_neg (by decide), pk_us, pk_un (by omega)]
      rw [e10, e11, big 0, b_or, b_or, hx10, hset hj, Bool.or_eq_true, Bool.or_eq_true, decide_eq_true_eq, decide_eq_true_eq, (rv j hj).1, (rv j hj).2]
      constructor
      · constructor
        · exact fun z => ⟨z.1, Or.inl z.2⟩
        · rintro ⟨z1, z2 | z2⟩
          · exact ⟨z1, z2⟩
          · omega
      · constructor
        · rintro (z | z)
          · exact Or.inl z
          · exact Or.inr (by omega)
        · rintro (z | z)
          · exact Or.inl z
          · exact Or.inr (by omega)
  · rw [ft, fn] at hk; rw [fcl]; exact rk k hk
  · rw [fg] at hk
    by_cases e : k = cs_g S
    · subst e
      rw [s2, flv, frs, pk_us, pk_us, pk_us, pk_us, pk_us]
      exact ⟨rfl, rfl, rfl⟩
    · have hkg : k < cs_g S := by omega
      obtain ⟨t1, t2, t3⟩ := rt k hkg
      have hne := hx k hkg
      rw [s1 k hkg, flv, frs, pk_un e, pk_un e, pk_un e, pk_un hne, pk_un hne]
      exact ⟨t1, t2, t3⟩
end PRR
