/-! what holds between the class's search and the reference's state -/
def cr_op (i : Nat) : Nat := if i < 10 then i + 10 else i - 10
def cr_sg (th i : Nat) : Prop := (1 ≤ i ∧ i ≤ th) ∨ (11 ≤ i ∧ i ≤ 10 + th)
def cs_s (S : cs_S) (k : Nat) : Nat := (cs_sg S k).toNatClampNeg
def cs_l (S : cs_S) (k : Nat) : Nat := (cs_lv S k).toNatClampNeg
def cs_pv (S : cs_S) (k : Nat) : Nat := if k = 0 then 0 else cs_l S (k - 1)
def cr_c (th : Nat) (c : Int32) : Prop := (∀ i, i < 32 → bt c i = true → cr_sg th i) ∧ ∀ i, 1 ≤ i → i ≤ 9 → ¬ (bt c i = true ∧ bt c (i + 10) = true)
/-- the settings and how it stands -/
def cr_Is (S : cs_S) : Prop := cs_Bd S ∧ 1 ≤ cs_k S ∧ (∃ r, 1 ≤ r ∧ r ≤ 20 ∧ cs_re S = nI r) ∧ (cs_fi S = nI 0 ∨ cs_fi S = nI 1) ∧ (cs_sd S = nI 0 ∨ cs_sd S = nI 1 ∨ cs_sd S = nI 2)
/-- the clauses -/
def cr_Ic (S : cs_S) : Prop := ∀ k, k < cs_t S + cs_n S → cr_c (cs_k S) (cs_cl S k)
/-- the trail -/
def cr_It (S : cs_S) : Prop := (∀ k, k < cs_g S → cs_sg S k = nI (cs_s S k) ∧ cr_sg (cs_k S) (cs_s S k) ∧ cs_lv S k = nI (cs_l S k) ∧ cs_l S k ≤ k + 1) ∧ (∀ j k, j < k → k < cs_g S → cs_s S j % 10 ≠ cs_s S k % 10) ∧ (∀ i, i < 32 → (bt (cs_va S) i = true ↔ ∃ k, k < cs_g S ∧ cs_s S k = i))
/-- one reason: of the sign s, at place k -/
def cr_r (S : cs_S) (k : Nat) : Prop := (cs_l S k = cs_pv S k ∧ ∃ c, c < cs_t S + cs_n S ∧ cs_rs S k = nI c ∧ bt (cs_cl S c) (cs_s S k) = true ∧ ∀ i, i < 32 → bt (cs_cl S c) i = true → i = cs_s S k ∨ ∃ j, j < k ∧ cs_s S j = cr_op i) ∨ (cs_l S k = cs_pv S k + 1 ∧ cs_rs S k = -nI 6)
def cr_I (S : cs_S) : Prop := cr_Is S ∧ cr_Ic S ∧ cr_It S ∧ ∀ k, k < cs_g S → cr_r S k
def cr_F (y : Int32) (S : cs_S) (f : Nat → Int32) : Prop := (f 0 = cs_th S ∧ f 1 = cs_re S ∧ f 2 = cs_fi S ∧ f 3 = cs_to S ∧ f 4 = cs_le S ∧ f 5 = cs_sd S ∧ f 6 = cs_pl S (cs_g S) ∧ f 7 = cs_gi S ∧ f 8 = cs_co S ∧ f 9 = y) ∧ (∀ k, k < cs_t S + cs_n S → f (49 + k) = cs_cl S k) ∧ (∀ k, k < cs_g S → f (10 + k) = nI (cs_s S k % 10) ∧ f (19 + cs_s S k % 10) = cb_wa (cs_s S k) ∧ f (29 + cs_s S k % 10) = cs_lv S k ∧ f (39 + cs_s S k % 10) = cs_rs S k) ∧ ∀ x, x ≤ 9 → (∀ k, k < cs_g S → cs_s S k % 10 ≠ x) → f (19 + x) = -nI 6 ∧ f (29 + x) = -nI 6 ∧ f (39 + x) = -nI 6
/-- the steps in the state are y; alike -/
def crp (y : Int32) (S : cs_S) (f : Nat → Int32) : Prop := cr_I S ∧ cr_F y S f
def cr (S : cs_S) (f : Nat → Int32) : Prop := crp (cs_sp S) S f
theorem cr_sg9 {th i : Nat} (h9 : th ≤ 9) (h : cr_sg th i) : 1 ≤ i ∧ i ≤ 19 ∧ i ≠ 10 ∧ 1 ≤ i % 10 ∧ i % 10 ≤ th := by
  rcases h with h | h <;> omega
theorem cr_sg_op {th i : Nat} (h9 : th ≤ 9) (h : cr_sg th i) : cr_sg th (cr_op i) := by
  unfold cr_op
  rcases h with h | h
  · rw [if_pos (by omega)]; right; omega
  · rw [if_neg (by omega)]; left; omega
theorem cr_op_op {th i : Nat} (h9 : th ≤ 9) (h : cr_sg th i) : cr_op (cr_op i) = i := by
  unfold cr_op
  rcases h with h | h
  · rw [if_pos (show i < 10 by omega), if_neg (by omega)]; omega
  · rw [if_neg (show ¬ i < 10 by omega), if_pos (by omega)]; omega
theorem cr_op_mod {i : Nat} (h : i < 20) : cr_op i % 10 = i % 10 := by
  unfold cr_op
  split <;> omega
theorem cr_two {th i j : Nat} (h9 : th ≤ 9) (hi : cr_sg th i) (hj : cr_sg th j) (e : i % 10 = j % 10) : i = j ∨ i = cr_op j := by
  have a := cr_sg9 h9 hi
  have b := cr_sg9 h9 hj
  unfold cr_op
  split <;> omega
theorem cr_sg_mono {a b i : Nat} (h : a ≤ b) (hi : cr_sg a i) : cr_sg b i := by
  rcases hi with q | q
  · left; omega
  · right; omega
theorem cr_c_lo {th : Nat} (h9 : th ≤ 9) {c : Int32} (h : cr_c th c) : cn_lo c := by
  intro i h1 h2
  cases b : bt c i with
  | false => rfl
  | true =>
    have := cr_sg9 h9 (h.1 i h2 b)
    omega
/-- the opposite set -/
theorem cb_op_mask : ∀ i, i < 32 → bt 1047550 i = (decide (1 ≤ i ∧ i ≤ 9) || decide (11 ≤ i ∧ i ≤ 19)) := by decide +kernel
theorem cb_op_bt {x : Int32} (h : ∀ i, i < 32 → bt x i = true → cr_sg 9 i) {i : Nat} (hi : i < 32) : bt (cb_op x) i = true ↔ cr_sg 9 i ∧ bt x (cr_op i) = true := by
  unfold cb_op
  rw [b_and, b_or, b_shl 10 (by omega) _ hi, b_sshr 10 (by omega) _ hi, cb_op_mask i hi]
  have hz : ∀ j, j < 32 → ¬ cr_sg 9 j → bt x j = false := by
    intro j hj hn
    cases b : bt x j with
    | false => rfl
    | true => exact absurd (h j hj b) hn
  unfold cr_sg cr_op at *
  by_cases a : 1 ≤ i ∧ i ≤ 9
  · rw [decide_eq_true a, Bool.true_or, Bool.and_true, decide_eq_false (by omega), Bool.false_and, Bool.false_or, if_pos (by omega), if_pos (by omega), Nat.add_comm 10 i]
    exact ⟨fun q => ⟨Or.inl a, q⟩, fun q => q.2⟩
  · rw [decide_eq_false a, Bool.false_or]
    by_cases b : 11 ≤ i ∧ i ≤ 19
    · rw [decide_eq_true b, Bool.and_true, decide_eq_true (by omega), Bool.true_and, if_pos (show 10 + i < 32 by omega), hz (10 + i) (by omega) (by omega), Bool.or_false, if_neg (by omega)]
      exact ⟨fun q => ⟨Or.inr (by omega), q⟩, fun q => q.2⟩
    · rw [decide_eq_false b, Bool.and_false]
      exact ⟨fun q => (by cases q), fun q => (by rcases q.1 with z | z <;> omega)⟩
theorem cb_m1bt (i : Nat) (hi : i < 32) : bt (-nI 1) i = true := b_m1 i hi
section CR
variable {y : Int32} {S : cs_S} {f : Nat → Int32}
theorem cr_g9 (h : cr_I S) : cs_g S ≤ 9 := h.1.1.1.2
theorem cr_k9 (h : cr_I S) : cs_k S ≤ 9 := h.1.1.2.2.2.2
theorem cr_va_sg (h : cr_I S) {i : Nat} (hi : i < 32) (hb : bt (cs_va S) i = true) : cr_sg (cs_k S) i := by
  obtain ⟨k, hk, rfl⟩ := (h.2.2.1.2.2 i hi).mp hb
  exact (h.2.2.1.1 k hk).2.1
theorem cr_va_op (h : cr_I S) {i : Nat} (hi : i < 32) : bt (cb_op (cs_va S)) i = true ↔ cr_sg 9 i ∧ bt (cs_va S) (cr_op i) = true :=
  cb_op_bt (fun i hi hb => cr_sg_mono (cr_k9 h) (cr_va_sg h hi hb)) hi
/-- is a sign, or its opposite, in the trail? -/
theorem cr_x (h : cr_I S) {i : Nat} (hi : cr_sg (cs_k S) i) : (bt (cs_va S) i = true ∧ bt (cs_va S) (cr_op i) = false ∧ ∃ k, k < cs_g S ∧ cs_s S k = i) ∨ (bt (cs_va S) i = false ∧ bt (cs_va S) (cr_op i) = true ∧ ∃ k, k < cs_g S ∧ cs_s S k = cr_op i) ∨ (bt (cs_va S) i = false ∧ bt (cs_va S) (cr_op i) = false ∧ ∀ k, k < cs_g S → cs_s S k % 10 ≠ i % 10) := by
  have h9 := cr_k9 h
  have hi2 := cr_sg9 h9 hi
  have ho := cr_sg_op h9 hi
  have ho2 := cr_sg9 h9 ho
  have hm := cr_op_mod (i := i) (by omega)
  have hne : cr_op i ≠ i := by unfold cr_op; split <;> omega
  have v1 := h.2.2.1.2.2 i (by omega)
  have v2 := h.2.2.1.2.2 (cr_op i) (by omega)
  have hd := h.2.2.1.2.1
  have uni : ∀ j k, j < cs_g S → k < cs_g S → cs_s S j % 10 = cs_s S k % 10 → j = k := by
    intro j k hj hk e
    rcases Nat.lt_trichotomy j k with q | q | q
    · exact absurd e (hd j k q hk)
    · exact q
    · exact absurd e.symm (hd k j q hj)
  by_cases a : ∃ k, k < cs_g S ∧ cs_s S k = i
  · left
    obtain ⟨k, hk, e⟩ := a
    refine ⟨v1.mpr ⟨k, hk, e⟩, ?_, k, hk, e⟩
    cases b : bt (cs_va S) (cr_op i) with
    | false => rfl
    | true =>
      obtain ⟨j, hj, e2⟩ := v2.mp b
      have := uni j k hj hk (by rw [e, e2, hm])
      subst this
      exact absurd (e2.symm.trans e) hne
  · have b1 : bt (cs_va S) i = false := by
      cases b : bt (cs_va S) i with
      | false => rfl
      | true => exact absurd (v1.mp b) a
    right
    by_cases c : ∃ k, k < cs_g S ∧ cs_s S k = cr_op i
    · left; exact ⟨b1, v2.mpr c, c⟩
    · right
      refine ⟨b1, ?_, fun k hk e => ?_⟩
      · cases b : bt (cs_va S) (cr_op i) with
        | false => rfl
        | true => exact absurd (v2.mp b) c
      · rcases cr_two h9 (h.2.2.1.1 k hk).2.1 hi e with q | q
        · exact a ⟨k, hk, q⟩
        · exact c ⟨k, hk, q⟩
theorem cb_wa_op {i : Nat} (h : 1 ≤ i ∧ i ≤ 19 ∧ i ≠ 10) : cb_wa (cr_op i) ≠ cb_wa i ∧ cb_wa i ≠ -nI 6 ∧ cb_wa (cr_op i) ≠ -nI 6 := by
  unfold cb_wa cr_op
  by_cases c : i < 10
  · rw [if_pos c, if_neg (show ¬ i + 10 < 10 by omega), if_pos c]; decide
  · rw [if_neg c, if_pos (show i - 10 < 10 by omega), if_neg c]; decide
theorem cr_val (h : crp y S f) {i : Nat} (hi : cr_sg (cs_k S) i) : (f (19 + i % 10) = cb_wa i ↔ bt (cs_va S) i = true) ∧ (f (19 + i % 10) = -nI 6 ↔ bt (cs_va S) i = false ∧ bt (cs_va S) (cr_op i) = false) := by
  have h9 := cr_k9 h.1
  have hi2 := cr_sg9 h9 hi
  have hm := cr_op_mod (i := i) (by omega)
  obtain ⟨w1, w2, w3⟩ := cb_wa_op (i := i) ⟨hi2.1, hi2.2.1, hi2.2.2.1⟩
  rcases cr_x h.1 hi with ⟨a, b, k, hk, e⟩ | ⟨a, b, k, hk, e⟩ | ⟨a, b, c⟩
  · have q := (h.2.2.2.1 k hk).2.1
    rw [e] at q
    rw [q, a, b]
    exact ⟨by simp, by simp [w2]⟩
  · have q := (h.2.2.2.1 k hk).2.1
    rw [e, hm] at q
    rw [q, a, b]
    exact ⟨by simp [w1], by simp [w3]⟩
  · have q := (h.2.2.2.2 (i % 10) (by omega) c).1
    rw [q, a, b]
    exact ⟨by simp [w2.symm], by simp⟩
/-- true, open, alike -/
theorem cm_tr_iff (f : Nat → Int32) (c : Int32) : ∀ n s a, cm_tr f c n s a = true ↔ a = true ∨ ∃ j, s ≤ j ∧ j < s + n ∧ bt c j = true ∧ f (19 + j % 10) = cb_wa j
  | 0, s, a => by
    unfold cm_tr
    exact ⟨Or.inl, fun h => h.elim id (fun ⟨j, h1, h2, _⟩ => by omega)⟩
  | n + 1, s, a => by
    unfold cm_tr
    rw [cm_tr_iff f c n (s + 1), Bool.or_eq_true, Bool.and_eq_true, decide_eq_true_eq]
    constructor
    · rintro ((h | ⟨h1, h2⟩) | ⟨j, h1, h2, h3⟩)
      · exact Or.inl h
      · exact Or.inr ⟨s, by omega, by omega, h1, h2⟩
      · exact Or.inr ⟨j, by omega, by omega, h3⟩
    · rintro (h | ⟨j, h1, h2, h3, h4⟩)
      · exact Or.inl (Or.inl h)
      · by_cases e : j = s
        · subst e; exact Or.inl (Or.inr ⟨h3, h4⟩)
        · exact Or.inr ⟨j, by omega, by omega, h3, h4⟩
theorem cb_meet {x y : Int32} : (¬ (x &&& y) = 0) ↔ ∃ i, i < 32 ∧ bt x i = true ∧ bt y i = true := by
  rw [cb_zero]
  constructor
  · intro h
    refine Classical.byContradiction fun hn => h (fun i hi => ?_)
    rw [b_and]
    cases a : bt x i with
    | false => rfl
    | true =>
      cases b : bt y i with
      | false => rfl
      | true => exact absurd ⟨i, hi, a, b⟩ hn
  · rintro ⟨i, hi, a, b⟩ h
    have := h i hi
    rw [b_and, a, b] at this
    cases this
theorem cr_tru (h : crp y S f) {c : Int32} (hc : cr_c (cs_k S) c) : cm_tru f c = cs_tr S c := by
  have h9 := cr_k9 h.1
  have e : cm_tru f c = true ↔ cs_tr S c = true := by
    unfold cm_tru cs_tr
    rw [cm_tr_iff, decide_eq_true_eq, cb_meet]
    constructor
    · rintro (q | ⟨j, h1, h2, h3, h4⟩)
      · cases q
      · exact ⟨j, by omega, h3, ((cr_val h (hc.1 j (by omega) h3)).1).mp h4⟩
    · rintro ⟨i, hi, a, b⟩
      have hs := hc.1 i hi a
      have := cr_sg9 h9 hs
      exact Or.inr ⟨i, by omega, by omega, a, ((cr_val h hs).1).mpr b⟩
  cases a : cm_tru f c <;> cases b : cs_tr S c <;> simp_all
/-- the open signs of a clause -/
theorem cr_op_bt (h : cr_I S) {c : Int32} (hc : cr_c (cs_k S) c) {i : Nat} (hi : i < 32) : bt (cs_op S c) i = true ↔ bt c i = true ∧ bt (cs_va S) i = false ∧ bt (cs_va S) (cr_op i) = false := by
  have h9 := cr_k9 h
  unfold cs_op
  rw [b_and, b_xor, b_or, cb_m1bt i hi]
  have q := cr_va_op h hi
  cases a : bt c i with
  | false => simp
  | true =>
    have hs := cr_sg_mono h9 (hc.1 i hi a)
    cases b : bt (cs_va S) i with
    | true => simp
    | false =>
      cases d : bt (cs_va S) (cr_op i) with
      | true => rw [q.mpr ⟨hs, d⟩]; simp
      | false =>
        have : bt (cb_op (cs_va S)) i = false := by
          cases e : bt (cb_op (cs_va S)) i with
          | false => rfl
          | true => have := (q.mp e).2; rw [d] at this; cases this
        rw [this]; simp
theorem cm_op_ct (f : Nat → Int32) (c : Int32) : ∀ n s a, cm_op f c n s a + fb_ct (fun j => bt c j && decide (f (19 + j % 10) = -nI 6)) s = a + fb_ct (fun j => bt c j && decide (f (19 + j % 10) = -nI 6)) (s + n)
  | 0, s, a => rfl
  | n + 1, s, a => by
    have ih := cm_op_ct f c n (s + 1) (a + (if bt c s = true ∧ f (19 + s % 10) = -nI 6 then 1 else 0))
    unfold cm_op
    rw [fb_ct_succ, show s + 1 + n = s + (n + 1) by omega] at ih
    have e : (if (bt c s && decide (f (19 + s % 10) = -nI 6)) = true then 1 else 0) = (if bt c s = true ∧ f (19 + s % 10) = -nI 6 then 1 else 0) := by
      by_cases q : bt c s = true ∧ f (19 + s % 10) = -nI 6
      · rw [if_pos q, if_pos (by rw [q.1, decide_eq_true q.2]; rfl)]
      · rw [if_neg q, if_neg (fun z => q (by rw [Bool.and_eq_true, decide_eq_true_eq] at z; exact z))]
    rw [e] at ih
    omega
theorem cr_opn (h : crp y S f) {c : Int32} (hc : cr_c (cs_k S) c) : cb_bc (cs_op S c) = nI (cm_opn f c) ∧ cm_opn f c = fb_ct (bt (cs_op S c)) 20 := by
  have h9 := cr_k9 h.1
  have hlo : cn_lo (cs_op S c) := by
    intro i h1 h2
    cases b : bt (cs_op S c) i with
    | false => rfl
    | true =>
      have := cr_sg9 h9 (hc.1 i h2 ((cr_op_bt h.1 hc h2).mp b).1)
      omega
  have e1 := cm_op_ct f c 19 1 0
  have e0 : fb_ct (fun j => bt c j && decide (f (19 + j % 10) = -nI 6)) 1 = 0 := fb_ct_zero.mpr (fun k hk => by
    have hk0 : k = 0 := by omega
    subst hk0
    cases b : bt c 0 with
    | false => rfl
    | true => have := cr_sg9 h9 (hc.1 0 (by omega) b); omega)
  have e2 : fb_ct (fun j => bt c j && decide (f (19 + j % 10) = -nI 6)) 20 = fb_ct (bt (cs_op S c)) 20 := fb_ct_cong (fun k hk => by
    have q := cr_op_bt h.1 hc (i := k) (by omega)
    cases a : bt c k with
    | false =>
      cases b : bt (cs_op S c) k with
      | false => rfl
      | true => have := (q.mp b).1; rw [a] at this; cases this
    | true =>
      have v := (cr_val h (hc.1 k (by omega) a)).2
      rw [Bool.true_and]
      cases b : bt (cs_op S c) k with
      | true => exact decide_eq_true (v.mpr (q.mp b).2)
      | false => exact decide_eq_false (fun z => by rw [q.mpr ⟨a, v.mp z⟩] at b; cases b))
  have e3 : cm_opn f c = fb_ct (bt (cs_op S c)) 20 := by unfold cm_opn; rw [show 1 + 19 = 20 from rfl] at e1; omega
  rw [cb_pop hlo, e3]
  exact ⟨rfl, rfl⟩
end CR
