/-! what a conflict gives -/
theorem fb_two {p : Nat → Bool} : ∀ {n : Nat}, fb_ct p n ≤ 1 ↔ ∀ i j, i < j → j < n → ¬ (p i = true ∧ p j = true)
  | 0 => ⟨fun _ i j _ h => absurd h (Nat.not_lt_zero j), fun _ => Nat.zero_le _⟩
  | n + 1 => by
    have ih := fb_two (p := p) (n := n)
    rw [fb_ct_succ]
    constructor
    · intro h i j hij hj ⟨a, b⟩
      by_cases e : j = n
      · subst e
        rw [if_pos b] at h
        have := fb_ct_zero.mp (show fb_ct p j = 0 by omega) i hij
        rw [a] at this; cases this
      · exact ih.mp (by omega) i j hij (by omega) ⟨a, b⟩
    · intro h
      have h1 := ih.mpr (fun i j hij hj => h i j hij (by omega))
      cases b : p n with
      | false => rw [if_neg (by decide)]; exact h1
      | true =>
        have h0 : fb_ct p n = 0 := fb_ct_zero.mpr (fun k hk => by
          cases a : p k with
          | false => rfl
          | true => exact absurd ⟨a, b⟩ (h k n hk (by omega)))
        rw [h0]; exact Nat.le_refl _
theorem cm_pi_ct (f : Nat → Int32) (c : Int32) : ∀ n k a, cm_pi f c n k a + fb_ct (cm_at f c) k = a + fb_ct (cm_at f c) (k + n)
  | 0, k, a => rfl
  | n + 1, k, a => by
    have ih := cm_pi_ct f c n (k + 1) (a + (if cm_at f c k then 1 else 0))
    unfold cm_pi
    rw [fb_ct_succ, show k + 1 + n = k + (n + 1) by omega] at ih
    omega
/-- the last place with a property -/
theorem cm_li_last (f : Nat → Int32) (c : Int32) {p : Nat} (hp : cm_at f c p = true) : ∀ n k a, k ≤ p → p < k + n → (∀ j, p < j → j < k + n → cm_at f c j = false) → cm_li f c n k a = nI (cm_x f p)
  | 0, k, a, h1, h2, _ => by omega
  | n + 1, k, a, h1, h2, h3 => by
    unfold cm_li
    by_cases e : k = p
    · subst e
      rw [if_pos hp]
      have none : ∀ m j a, (∀ i, j ≤ i → i < j + m → cm_at f c i = false) → cm_li f c m j a = a := by
        intro m
        induction m with
        | zero => intro j a _; rfl
        | succ m ih =>
          intro j a hj
          unfold cm_li
          rw [if_neg (by rw [hj j (Nat.le_refl _) (by omega)]; decide)]
          exact ih (j + 1) a (fun i h4 h5 => hj i (by omega) (by omega))
      exact none n (k + 1) _ (fun i h4 h5 => h3 i (by omega) (by omega))
    · exact cm_li_last f c hp n (k + 1) _ (by omega) (by omega) (fun j h4 h5 => h3 j h4 (by omega))
section CR5
variable {y : Int32} {S : cs_S} {f : Nat → Int32}
/-- all signs of the clause are against the trail -/
def cr_fl (S : cs_S) (c : Int32) : Prop := ∀ i, i < 32 → bt c i = true → cr_sg (cs_k S) i ∧ ∃ k, k < cs_g S ∧ cs_s S k = cr_op i
theorem cr_uni (h : cr_I S) {j k : Nat} (hj : j < cs_g S) (hk : k < cs_g S) (e : cs_s S j % 10 = cs_s S k % 10) : j = k := by
  rcases Nat.lt_trichotomy j k with q | q | q
  · exact absurd e (h.2.2.1.2.1 j k q hk)
  · exact q
  · exact absurd e.symm (h.2.2.1.2.1 k j q hj)
theorem cr_fl_not (h : cr_I S) {c : Int32} (hc : cr_fl S c) {k : Nat} (hk : k < cs_g S) : bt c (cs_s S k) = false := by
  have h9 := cr_k9 h
  have hs := (h.2.2.1.1 k hk).2.1
  have q := cr_sg9 h9 hs
  cases b : bt c (cs_s S k) with
  | false => rfl
  | true =>
    obtain ⟨-, j, hj, e⟩ := hc _ (by omega) b
    have := cr_uni h hj hk (by rw [e]; exact cr_op_mod (by omega))
    subst this
    unfold cr_op at e
    split at e <;> omega
theorem cr_fl_c (h : cr_I S) {c : Int32} (hc : cr_fl S c) : cr_c (cs_k S) c := by
  have h9 := cr_k9 h
  refine ⟨fun i hi hb => (hc i hi hb).1, fun i h1 h2 ⟨a, b⟩ => ?_⟩
  obtain ⟨-, k, hk, e⟩ := hc i (by omega) a
  have := cr_fl_not h hc hk
  rw [e] at this
  unfold cr_op at this
  rw [if_pos (by omega), b] at this
  cases this
theorem cr_fl_of (h : cr_I S) {k : Nat} (hk : k < cs_t S + cs_n S) (hp : cr_P S 0 k = true) : cr_fl S (cs_cl S k) := by
  have hc := h.2.1 k hk
  have h9 := cr_k9 h
  unfold cr_P at hp
  rw [Bool.and_eq_true, Bool.not_eq_true', decide_eq_true_eq] at hp
  intro i hi hb
  have hs := hc.1 i hi hb
  have q := cr_sg9 h9 hs
  refine ⟨hs, ?_⟩
  have hv : bt (cs_va S) i = false := by
    cases b : bt (cs_va S) i with
    | false => rfl
    | true =>
      have : cs_tr S (cs_cl S k) = true := decide_eq_true (cb_meet.mpr ⟨i, hi, hb, b⟩)
      rw [hp.1] at this; cases this
  have ho := fb_ct_zero.mp hp.2 i (by omega)
  have hv2 : bt (cs_va S) (cr_op i) = true := by
    cases b : bt (cs_va S) (cr_op i) with
    | true => rfl
    | false => rw [(cr_op_bt h hc hi).mpr ⟨hb, hv, b⟩] at ho; cases ho
  have := cr_sg9 h9 (cr_sg_op h9 hs)
  exact (h.2.2.1.2.2 (cr_op i) (by omega)).mp hv2
theorem cm_x_s (h : crp y S f) {k : Nat} (hk : k < cs_g S) : cm_x f k = cs_s S k % 10 := by
  unfold cm_x; rw [(h.2.2.2.1 k hk).1, nI_clamp (by omega)]
theorem cm_so_none {c : Int32} {k : Nat} (hk : k ≤ 9) : cm_so c k = -nI 6 ↔ bt c k = false ∧ bt c (k + 10) = false := by
  unfold cm_so
  cases a : bt c k with
  | true =>
    rw [if_pos rfl]
    exact ⟨fun q => absurd q (cm_n6 (by omega)), fun q => by cases q.1⟩
  | false =>
    rw [if_neg (by decide)]
    cases b : bt c (k + 10) with
    | true =>
      rw [if_pos rfl]
      exact ⟨fun q => absurd q (cm_n6 (by omega)), fun q => by cases q.2⟩
    | false => rw [if_neg (by decide)]; exact ⟨fun _ => ⟨rfl, rfl⟩, fun _ => rfl⟩
/-- a thing of the trail has a sign in the clause just where the sign's opposite is there -/
theorem cr_so (h : crp y S f) {c : Int32} (hc : cr_fl S c) {k : Nat} (hk : k < cs_g S) : (cm_so c (cs_s S k % 10) = -nI 6) ↔ bt c (cr_op (cs_s S k)) = false := by
  have h9 := cr_k9 h.1
  have hs := (h.1.2.2.1.1 k hk).2.1
  have q := cr_sg9 h9 hs
  have hn := cr_fl_not h.1 hc hk
  rw [cm_so_none (by omega)]
  unfold cr_op
  rcases hs with e | e
  · rw [if_pos (by omega), Nat.mod_eq_of_lt (by omega)]
    exact ⟨fun q => q.2, fun q => ⟨hn, q⟩⟩
  · rw [if_neg (by omega), show cs_s S k % 10 = cs_s S k - 10 by omega, show cs_s S k - 10 + 10 = cs_s S k by omega]
    exact ⟨fun q => q.1, fun q => ⟨q, hn⟩⟩
theorem cr_at (h : crp y S f) {c : Int32} (hc : cr_fl S c) {k : Nat} (hk : k < cs_g S) : cm_at f c k = true ↔ cs_lv S k = cs_pl S (cs_g S) ∧ bt c (cr_op (cs_s S k)) = true := by
  unfold cm_at
  rw [cm_x_s h hk, (h.2.2.2.1 k hk).2.2.1, h.2.1.2.2.2.2.2.2.1, Bool.and_eq_true, decide_eq_true_eq, Bool.not_eq_true', decide_eq_false_iff_not, cr_so h hc hk, Bool.not_eq_false]
/-- the signs of the present level -/
theorem cs_spl_bt (h : cr_I S) {i : Nat} (hi : i < 32) : ∀ n k a, k + n = cs_g S → (bt (cs_spl S n k a) i = true ↔ bt a i = true ∨ ∃ j, k ≤ j ∧ j < cs_g S ∧ cs_lv S j = cs_pl S (cs_g S) ∧ cs_s S j = i)
  | 0, k, a, hk => by
    unfold cs_spl
    exact ⟨Or.inl, fun q => q.elim id (fun ⟨j, h1, h2, _⟩ => by omega)⟩
  | n + 1, k, a, hk => by
    have h9 := cr_k9 h
    obtain ⟨e1, e2, -⟩ := h.2.2.1.1 k (by omega)
    have e3 := cr_sg9 h9 e2
    unfold cs_spl
    rw [cs_spl_bt h hi n (k + 1) _ (by omega)]
    by_cases c : cs_lv S k = cs_pl S (cs_g S)
    · rw [if_pos c, b_or, e1, cb_set_bt (by omega) hi, Bool.or_eq_true, decide_eq_true_eq]
      constructor
      · rintro ((q | q) | ⟨j, h1, h2, h3⟩)
        · exact Or.inl q
        · exact Or.inr ⟨k, by omega, by omega, c, q.symm⟩
        · exact Or.inr ⟨j, by omega, h2, h3⟩
      · rintro (q | ⟨j, h1, h2, h3, h4⟩)
        · exact Or.inl (Or.inl q)
        · by_cases e : j = k
          · subst e; exact Or.inl (Or.inr h4.symm)
          · exact Or.inr ⟨j, by omega, h2, h3, h4⟩
    · rw [if_neg c]
      constructor
      · rintro (q | ⟨j, h1, h2, h3⟩)
        · exact Or.inl q
        · exact Or.inr ⟨j, by omega, h2, h3⟩
      · rintro (q | ⟨j, h1, h2, h3, h4⟩)
        · exact Or.inl q
        · by_cases e : j = k
          · subst e; exact absurd h3 c
          · exact Or.inr ⟨j, by omega, h2, h3, h4⟩
def cr_ps (S : cs_S) : Int32 := cb_op (cs_spl S (cs_g S) 0 (nI 0))
theorem cr_ps_bt (h : cr_I S) {i : Nat} (hi : i < 32) : bt (cr_ps S) i = true ↔ cr_sg 9 i ∧ ∃ j, j < cs_g S ∧ cs_lv S j = cs_pl S (cs_g S) ∧ cs_s S j = cr_op i := by
  have h9 := cr_k9 h
  have key : ∀ i, i < 32 → (bt (cs_spl S (cs_g S) 0 (nI 0)) i = true ↔ ∃ j, j < cs_g S ∧ cs_lv S j = cs_pl S (cs_g S) ∧ cs_s S j = i) := fun i hi => by
    rw [cs_spl_bt h hi (cs_g S) 0 (nI 0) (by omega)]
    constructor
    · rintro (q | ⟨j, -, h2, h3⟩)
      · rw [show nI 0 = 0 from rfl, b_0] at q; cases q
      · exact ⟨j, h2, h3⟩
    · rintro ⟨j, h2, h3⟩
      exact Or.inr ⟨j, Nat.zero_le _, h2, h3⟩
  unfold cr_ps
  rw [cb_op_bt (fun i hi hb => by
    obtain ⟨j, hj, -, rfl⟩ := (key i hi).mp hb
    exact cr_sg_mono h9 (h.2.2.1.1 j hj).2.1) hi]
  constructor
  · rintro ⟨a, b⟩
    have := cr_sg9 (Nat.le_refl 9) (cr_sg_op (Nat.le_refl 9) a)
    exact ⟨a, (key _ (by omega)).mp b⟩
  · rintro ⟨a, b⟩
    have := cr_sg9 (Nat.le_refl 9) (cr_sg_op (Nat.le_refl 9) a)
    exact ⟨a, (key _ (by omega)).mpr b⟩
/-- at most one sign of the present level, counted both ways -/
theorem cr_cnt (h : crp y S f) {c : Int32} (hc : cr_fl S c) : cb_bc (c &&& cr_ps S) ≤ nI 1 ↔ cm_pi f c (cs_g S) 0 0 ≤ 1 := by
  have h9 := cr_k9 h.1
  have hlo : cn_lo (c &&& cr_ps S) := by
    intro i h1 h2
    rw [b_and]
    cases b : bt c i with
    | false => rfl
    | true => have := cr_sg9 h9 (hc i h2 b).1; omega
  have hle := fb_ct_le (bt (c &&& cr_ps S)) 20
  have e1 := cm_pi_ct f c (cs_g S) 0 0
  rw [Nat.zero_add, Nat.zero_add, show fb_ct (cm_at f c) 0 = 0 from rfl, Nat.add_zero] at e1
  rw [cb_pop hlo, nI_leI (by omega) (by omega), e1, fb_two, fb_two]
  have bits : ∀ i, i < 20 → (bt (c &&& cr_ps S) i = true ↔ ∃ k, k < cs_g S ∧ cm_at f c k = true ∧ cs_s S k = cr_op i ∧ cr_sg (cs_k S) i) := by
    intro i hi
    rw [b_and, Bool.and_eq_true, cr_ps_bt h.1 (by omega)]
    constructor
    · rintro ⟨a, b, k, hk, e1, e2⟩
      have hs := (hc i (by omega) a).1
      refine ⟨k, hk, (cr_at h hc hk).mpr ⟨e1, ?_⟩, e2, hs⟩
      rw [e2, cr_op_op h9 hs]; exact a
    · rintro ⟨k, hk, a, e, hs⟩
      obtain ⟨a1, a2⟩ := (cr_at h hc hk).mp a
      rw [e, cr_op_op h9 hs] at a2
      exact ⟨a2, cr_sg_mono h9 hs, k, hk, a1, e⟩
  constructor
  · intro hn i j hij hj ⟨a, b⟩
    have q1 := (cr_at h hc (show i < cs_g S by omega)).mp a
    have q2 := (cr_at h hc hj).mp b
    have s1 := cr_sg9 h9 (cr_sg_op h9 (h.1.2.2.1.1 i (by omega)).2.1)
    have s2 := cr_sg9 h9 (cr_sg_op h9 (h.1.2.2.1.1 j hj).2.1)
    have b1 := (bits (cr_op (cs_s S i)) (by omega)).mpr ⟨i, by omega, a, (cr_op_op h9 (h.1.2.2.1.1 i (by omega)).2.1).symm, cr_sg_op h9 (h.1.2.2.1.1 i (by omega)).2.1⟩
    have b2 := (bits (cr_op (cs_s S j)) (by omega)).mpr ⟨j, hj, b, (cr_op_op h9 (h.1.2.2.1.1 j hj).2.1).symm, cr_sg_op h9 (h.1.2.2.1.1 j hj).2.1⟩
    have hne : cr_op (cs_s S i) ≠ cr_op (cs_s S j) := by
      intro e
      have e2 := congrArg cr_op e
      rw [cr_op_op h9 (h.1.2.2.1.1 i (by omega)).2.1, cr_op_op h9 (h.1.2.2.1.1 j hj).2.1] at e2
      have := cr_uni h.1 (j := i) (k := j) (by omega) hj (by rw [e2])
      omega
    rcases Nat.lt_or_ge (cr_op (cs_s S i)) (cr_op (cs_s S j)) with z | z
    · exact hn _ _ z (by omega) ⟨b1, b2⟩
    · exact hn _ _ (show cr_op (cs_s S j) < cr_op (cs_s S i) by omega) (by omega) ⟨b2, b1⟩
  · intro hn i j hij hj ⟨a, b⟩
    obtain ⟨k1, hk1, a1, e1, s1⟩ := (bits i (by omega)).mp a
    obtain ⟨k2, hk2, a2, e2, s2⟩ := (bits j hj).mp b
    have hne : k1 ≠ k2 := by
      rintro rfl
      have := congrArg cr_op (e1.symm.trans e2)
      rw [cr_op_op h9 s1, cr_op_op h9 s2] at this
      omega
    rcases Nat.lt_or_ge k1 k2 with z | z
    · exact hn _ _ z hk2 ⟨a1, a2⟩
    · exact hn _ _ (show k2 < k1 by omega) hk1 ⟨a2, a1⟩
theorem cb_hs_bt {x : Int32} {k : Nat} (hk : k < 32) : cb_hs x (nI k) = bt x k := by
  unfold cb_hs
  cases b : bt x k with
  | false => exact decide_eq_false (fun q => q ((cb_has hk).mpr b))
  | true => exact decide_eq_true (fun q => by rw [(cb_has hk).mp q] at b; cases b)
theorem cb_opp_nI {i : Nat} (h : i < 20) : cb_opp (nI i) = nI (cr_op i) := by
  unfold cb_opp cr_op
  by_cases c : i < 10
  · rw [if_pos c, if_pos (nI_lt c (by omega)), nI_add]
  · rw [if_neg c, if_neg (nI_nlt (by omega) (by omega)), pk_sub (by omega)]
theorem cm_wo_bt {c : Int32} {x i : Nat} (hx : x ≤ 9) (hi : i < 32) : bt (cm_wo c (nI x)) i = (bt c i && (decide (i ≠ x) && decide (i ≠ x + 10))) := by
  unfold cm_wo
  rw [nI_add, b_and, b_xor, b_or, cb_one (by omega) hi, cb_one (by omega) hi, cb_m1bt i hi]
  by_cases a : i = x
  · simp [a]
  · by_cases b : i = x + 10
    · simp [b]
    · simp [a, b]
/-- the clause that is learnt, both ways -/
theorem cr_coo (h : crp y S f) : ∀ n c, n ≤ cs_g S → cr_fl S c → (∀ k, n ≤ k → k < cs_g S → cs_lv S k = cs_pl S (cs_g S) → bt c (cr_op (cs_s S k)) = false) → ∀ N, n < N → cm_ln f (cs_g S) N c = some (cs_coo S (cr_ps S) n c) ∧ cr_fl S (cs_coo S (cr_ps S) n c)
  | 0, c, hn, hc, hk, N, hN => by
    obtain ⟨M, rfl⟩ : ∃ M, N = M + 1 := ⟨N - 1, by omega⟩
    have e1 := cm_pi_ct f c (cs_g S) 0 0
    rw [Nat.zero_add, Nat.zero_add, show fb_ct (cm_at f c) 0 = 0 from rfl, Nat.add_zero] at e1
    have z : fb_ct (cm_at f c) (cs_g S) = 0 := fb_ct_zero.mpr (fun k hk2 => by
      cases b : cm_at f c k with
      | false => rfl
      | true =>
        obtain ⟨a1, a2⟩ := (cr_at h hc hk2).mp b
        rw [hk k (Nat.zero_le _) hk2 a1] at a2
        cases a2)
    unfold cm_ln cs_coo
    rw [if_pos (by omega)]
    exact ⟨rfl, hc⟩
  | n + 1, c, hn, hc, hk, N, hN => by
    have h9 := cr_k9 h.1
    obtain ⟨M, rfl⟩ : ∃ M, N = M + 1 := ⟨N - 1, by omega⟩
    obtain ⟨es, hs, el, -⟩ := h.1.2.2.1.1 n (by omega)
    have hs9 := cr_sg9 h9 hs
    have ho := cr_sg_op h9 hs
    have ho9 := cr_sg9 h9 ho
    unfold cs_coo
    by_cases d : cb_bc (c &&& cr_ps S) ≤ nI 1
    · rw [if_pos d]
      unfold cm_ln
      rw [if_pos ((cr_cnt h hc).mp d)]
      exact ⟨rfl, hc⟩
    · rw [if_neg d, es, cb_opp_nI (by omega), cb_hs_bt (by omega)]
      cases b : bt c (cr_op (cs_s S n)) with
      | false =>
        rw [if_neg (by decide)]
        refine cr_coo h n c (by omega) hc (fun k h1 h2 h3 => ?_) (M + 1) (by omega)
        by_cases e : k = n
        · subst e; exact b
        · exact hk k (by omega) h2 h3
      | true =>
        rw [if_pos rfl]
        have hpi : ¬ cm_pi f c (cs_g S) 0 0 ≤ 1 := fun q => d ((cr_cnt h hc).mpr q)
        have e1 := cm_pi_ct f c (cs_g S) 0 0
        rw [Nat.zero_add, Nat.zero_add, show fb_ct (cm_at f c) 0 = 0 from rfl, Nat.add_zero] at e1
        -- two places of the present level: the last one is n
        have htwo : ∃ i j, i < j ∧ j < cs_g S ∧ cm_at f c i = true ∧ cm_at f c j = true := by
          refine Classical.byContradiction fun q => hpi ?_
          rw [e1, fb_two]
          exact fun i j h1 h2 h3 => q ⟨i, j, h1, h2, h3⟩
        obtain ⟨i, j, hij, hj, ai, aj⟩ := htwo
        have qi := (cr_at h hc (show i < cs_g S by omega)).mp ai
        have qj := (cr_at h hc hj).mp aj
        have below : ∀ k, k < cs_g S → cm_at f c k = true → k ≤ n := fun k hk2 a => by
          refine Classical.byContradiction fun q => ?_
          obtain ⟨a1, a2⟩ := (cr_at h hc hk2).mp a
          rw [hk k (by omega) hk2 a1] at a2
          cases a2
        have hjn := below j hj aj
        have hin : i < n := by omega
        -- levels
        have hpl := cr_pl h.1
        have li : cs_l S i = cs_pv S (cs_g S) := by
          have := (h.1.2.2.1.1 i (by omega)).2.2
          have hpv := cr_pv_le h.1
          have g9 := cr_g9 h.1
          exact (nI_eq (by omega) (by omega)).mp (by rw [← this.1, qi.1, hpl])
        have lgn : cs_l S n ≤ cs_pv S (cs_g S) := by
          unfold cs_pv
          rw [if_neg (by omega)]
          exact cr_mono h.1 _ (by omega) (by omega)
        have lin := cr_mono h.1 (j := i) n (by omega) (by omega)
        have eln : cs_l S n = cs_pv S (cs_g S) := by omega
        have an : cm_at f c n = true := (cr_at h hc (by omega)).mpr ⟨by rw [el, hpl, eln], b⟩
        have hli : cm_li f c (cs_g S) 0 (-nI 6) = nI (cs_s S n % 10) := by
          rw [cm_li_last f c an (cs_g S) 0 (-nI 6) (by omega) (by omega) (fun k h1 h2 => ?_), cm_x_s h (by omega)]
          cases z : cm_at f c k with
          | false => rfl
          | true => have := below k (by omega) z; omega
        -- the reason
        have hpvn : cs_l S i ≤ cs_pv S n := by
          unfold cs_pv
          rw [if_neg (by omega)]
          exact cr_mono h.1 (n - 1) (by omega) (by omega)
        obtain ⟨-, cc, hcc, er, br, orr⟩ : cs_l S n = cs_pv S n ∧ ∃ c, c < cs_t S + cs_n S ∧ cs_rs S n = nI c ∧ bt (cs_cl S c) (cs_s S n) = true ∧ ∀ i, i < 32 → bt (cs_cl S c) i = true → i = cs_s S n ∨ ∃ j, j < n ∧ cs_s S j = cr_op i := by
          rcases h.1.2.2.2 n (by omega) with z | z
          · exact z
          · omega
        have hB := h.1.1.1
        have hcc60 : cc < 60 := by have := hB.2.1.2; have := hB.2.2.1.2; omega
        have eca : cs_ca S (cs_rs S n) = cs_cl S cc := by
          unfold cs_ca
          rw [er, if_neg (nI_pos (by omega)), if_neg (nI_ge hcc60 (by omega)), nI_clamp (by omega)]
        have erc : cm_rc f (nI (cs_s S n % 10)) = cs_cl S cc := by
          unfold cm_rc
          rw [nI_add, nI_clamp (by omega), (h.2.2.2.1 n (by omega)).2.2.2, er, nI_add, nI_clamp (by omega)]
          exact h.2.2.1 cc hcc
        have hrc := h.1.2.1 cc hcc
        have nboth : bt (cs_cl S cc) (cr_op (cs_s S n)) = false := by
          cases z : bt (cs_cl S cc) (cr_op (cs_s S n)) with
          | false => rfl
          | true =>
            exfalso
            rcases hs with e | e
            · refine hrc.2 (cs_s S n) (by omega) (by omega) ⟨br, ?_⟩
              unfold cr_op at z
              rw [if_pos (by omega)] at z; exact z
            · refine hrc.2 (cs_s S n - 10) (by omega) (by omega) ⟨?_, ?_⟩
              · unfold cr_op at z
                rw [if_neg (by omega)] at z; exact z
              · rw [show cs_s S n - 10 + 10 = cs_s S n by omega]; exact br
        have nown := cr_fl_not h.1 hc (show n < cs_g S by omega)
        have hxx : ∀ i, i < 32 → ((i = cs_s S n % 10 ∨ i = cs_s S n % 10 + 10) ↔ (i = cs_s S n ∨ i = cr_op (cs_s S n))) := by
          intro i hi
          unfold cr_op
          rcases hs with e | e
          · rw [if_pos (by omega), Nat.mod_eq_of_lt (show cs_s S n < 10 by omega)]
          · rw [if_neg (by omega), show cs_s S n % 10 = cs_s S n - 10 by omega, show cs_s S n - 10 + 10 = cs_s S n by omega]
            exact or_comm
        -- the same new clause
        have enew : cm_wo c (nI (cs_s S n % 10)) ||| cm_wo (cs_cl S cc) (nI (cs_s S n % 10)) = (c &&& (cb_set (nI (cr_op (cs_s S n))) ^^^ (-nI 1))) ||| (cs_ca S (cs_rs S n) &&& (cb_set (nI (cs_s S n)) ^^^ (-nI 1))) := by
          rw [eca]
          apply b_ext
          intro i hi
          rw [b_or, b_or, cm_wo_bt (by omega) hi, cm_wo_bt (by omega) hi, b_and, b_and, b_xor, b_xor, cb_set_bt (by omega) hi, cb_set_bt (by omega) hi, cb_m1bt i hi]
          have := hxx i hi
          by_cases z1 : i = cs_s S n
          · rw [z1, nown]
            have : ¬ (cs_s S n ≠ cs_s S n % 10 ∧ cs_s S n ≠ cs_s S n % 10 + 10) := fun q => by
              rcases (hxx (cs_s S n) (by omega)).mpr (Or.inl rfl) with e | e
              · exact q.1 e
              · exact q.2 e
            have t : (decide (cs_s S n ≠ cs_s S n % 10) && decide (cs_s S n ≠ cs_s S n % 10 + 10)) = false := by
              cases w : (decide (cs_s S n ≠ cs_s S n % 10) && decide (cs_s S n ≠ cs_s S n % 10 + 10)) with
              | false => rfl
              | true => rw [Bool.and_eq_true, decide_eq_true_eq, decide_eq_true_eq] at w; exact absurd w this
            rw [t]; simp
          · by_cases z2 : i = cr_op (cs_s S n)
            · rw [z2, nboth]
              have : ¬ (cr_op (cs_s S n) ≠ cs_s S n % 10 ∧ cr_op (cs_s S n) ≠ cs_s S n % 10 + 10) := fun q => by
                rcases (hxx (cr_op (cs_s S n)) (by omega)).mpr (Or.inr rfl) with e | e
                · exact q.1 e
                · exact q.2 e
              have t : (decide (cr_op (cs_s S n) ≠ cs_s S n % 10) && decide (cr_op (cs_s S n) ≠ cs_s S n % 10 + 10)) = false := by
                cases w : (decide (cr_op (cs_s S n) ≠ cs_s S n % 10) && decide (cr_op (cs_s S n) ≠ cs_s S n % 10 + 10)) with
                | false => rfl
                | true => rw [Bool.and_eq_true, decide_eq_true_eq, decide_eq_true_eq] at w; exact absurd w this
              rw [t]; simp
            · have n1 : i ≠ cs_s S n % 10 := fun q => (this.mp (Or.inl q)).elim z1 z2
              have n2 : i ≠ cs_s S n % 10 + 10 := fun q => (this.mp (Or.inr q)).elim z1 z2
              rw [decide_eq_true n1, decide_eq_true n2, decide_eq_false z1, decide_eq_false z2]; simp
        have hbn : ∀ i, i < 32 → bt ((c &&& (cb_set (nI (cr_op (cs_s S n))) ^^^ (-nI 1))) ||| (cs_ca S (cs_rs S n) &&& (cb_set (nI (cs_s S n)) ^^^ (-nI 1)))) i = true → (bt c i = true ∧ i ≠ cr_op (cs_s S n)) ∨ (bt (cs_cl S cc) i = true ∧ i ≠ cs_s S n) := by
          intro i hi q
          rw [eca, b_or, b_and, b_and, b_xor, b_xor, cb_set_bt (by omega) hi, cb_set_bt (by omega) hi, cb_m1bt i hi, Bool.or_eq_true, Bool.and_eq_true, Bool.and_eq_true] at q
          rcases q with ⟨q1, q2⟩ | ⟨q1, q2⟩
          · left; refine ⟨q1, fun e => ?_⟩; rw [decide_eq_true e] at q2; cases q2
          · right; refine ⟨q1, fun e => ?_⟩; rw [decide_eq_true e] at q2; cases q2
        have hc2 : cr_fl S ((c &&& (cb_set (nI (cr_op (cs_s S n))) ^^^ (-nI 1))) ||| (cs_ca S (cs_rs S n) &&& (cb_set (nI (cs_s S n)) ^^^ (-nI 1)))) := by
          intro i hi q
          rcases hbn i hi q with ⟨q1, -⟩ | ⟨q1, q2⟩
          · exact hc i hi q1
          · refine ⟨hrc.1 i hi q1, ?_⟩
            rcases orr i hi q1 with e | ⟨j, hj, e⟩
            · exact absurd e q2
            · exact ⟨j, by omega, e⟩
        have hk2 : ∀ k, n ≤ k → k < cs_g S → cs_lv S k = cs_pl S (cs_g S) → bt ((c &&& (cb_set (nI (cr_op (cs_s S n))) ^^^ (-nI 1))) ||| (cs_ca S (cs_rs S n) &&& (cb_set (nI (cs_s S n)) ^^^ (-nI 1)))) (cr_op (cs_s S k)) = false := by
          intro k h1 h2 h3
          have hsk := (h.1.2.2.1.1 k h2).2.1
          have hok := cr_sg9 h9 (cr_sg_op h9 hsk)
          cases z : bt ((c &&& (cb_set (nI (cr_op (cs_s S n))) ^^^ (-nI 1))) ||| (cs_ca S (cs_rs S n) &&& (cb_set (nI (cs_s S n)) ^^^ (-nI 1)))) (cr_op (cs_s S k)) with
          | false => rfl
          | true =>
            exfalso
            rcases hbn _ (by omega) z with ⟨q1, q2⟩ | ⟨q1, q2⟩
            · by_cases e : k = n
              · subst e; exact q2 rfl
              · rw [hk k (by omega) h2 h3] at q1; cases q1
            · rcases orr _ (by omega) q1 with e | ⟨j, hj, e⟩
              · exact q2 e
              · rw [cr_op_op h9 hsk] at e
                have := cr_uni h.1 (show j < cs_g S by omega) h2 (by rw [e])
                omega
        have ih := cr_coo h n _ (by omega) hc2 hk2 M (by omega)
        refine ⟨?_, ih.2⟩
        conv => lhs; unfold cm_ln
        rw [if_neg hpi, hli, erc, enew]
        exact ih.1
end CR5
