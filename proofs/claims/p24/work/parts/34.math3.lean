/-! the pieces of a step: the first clause of a kind, the lowest open thing, a value given -/
section CR3
variable {y : Int32} {S : cs_S} {f : Nat → Int32}
theorem cm_fo_first {P : Nat → Bool} (hP : ∀ k, k < cs_t S + cs_n S → cm_fa f (f (49 + k)) = P k) {o : Int32} (hQ : ∀ k, k < cs_t S + cs_n S → (P k = true ↔ cs_tr S (cs_cl S k) = false ∧ cb_bc (cs_op S (cs_cl S k)) = o)) : ∀ n k, k + n ≤ cs_t S + cs_n S → (cs_fu S o n k = -nI 6 ∧ ∀ a, cm_fo f (k + n) a = cm_fo f k a) ∨ ∃ j, j < k + n ∧ P j = true ∧ cs_fu S o n k = nI j ∧ ∀ a, cm_fo f (k + n) a = cm_fo f k (nI j)
  | 0, k, _ => Or.inl ⟨rfl, fun _ => rfl⟩
  | n + 1, k, h => by
    have ih := cm_fo_first hP hQ n (k + 1) (by omega)
    rw [show k + 1 + n = k + (n + 1) by omega] at ih
    have e : ∀ a, cm_fo f (k + 1) a = cm_fo f k (if P k then nI k else a) := fun a => by
      show cm_fo f k (if cm_fa f (f (49 + k)) then nI k else a) = _
      rw [hP k (by omega)]
    cases p : P k with
    | true =>
      right
      have q := (hQ k (by omega)).mp p
      refine ⟨k, by omega, p, ?_, fun a => ?_⟩
      · unfold cs_fu
        rw [if_neg (by rw [q.1]; decide), if_pos q.2]
      · rcases ih with ⟨-, h2⟩ | ⟨j, -, -, -, h2⟩
        · rw [h2, e, p]; rfl
        · rw [h2, e, p]; rfl
    | false =>
      have e2 : cs_fu S o (n + 1) k = cs_fu S o n (k + 1) := by
        conv => lhs; unfold cs_fu
        cases b : cs_tr S (cs_cl S k) with
        | true => rw [if_pos rfl]
        | false =>
          rw [if_neg (by decide), if_neg (fun z => by rw [(hQ k (by omega)).mpr ⟨b, z⟩] at p; cases p)]
      rw [e2]
      rcases ih with ⟨h1, h2⟩ | ⟨j, h0, hp, h1, h2⟩
      · exact Or.inl ⟨h1, fun a => by rw [h2, e, p]; rfl⟩
      · exact Or.inr ⟨j, h0, hp, h1, fun a => by rw [h2, e, p]; rfl⟩
theorem cm_fw_first {P : Nat → Bool} (hP : ∀ k, k < cs_t S + cs_n S → ((cm_opn f (f (49 + k)) = 1 ∧ cm_tru f (f (49 + k)) = false) ↔ P k = true)) {o : Int32} (hQ : ∀ k, k < cs_t S + cs_n S → (P k = true ↔ cs_tr S (cs_cl S k) = false ∧ cb_bc (cs_op S (cs_cl S k)) = o)) : ∀ n k, k + n ≤ cs_t S + cs_n S → (cs_fu S o n k = -nI 6 ∧ ∀ a, cm_fw f (k + n) a = cm_fw f k a) ∨ ∃ j, j < k + n ∧ P j = true ∧ cs_fu S o n k = nI j ∧ ∀ a, cm_fw f (k + n) a = cm_fw f k (nI j)
  | 0, k, _ => Or.inl ⟨rfl, fun _ => rfl⟩
  | n + 1, k, h => by
    have ih := cm_fw_first hP hQ n (k + 1) (by omega)
    rw [show k + 1 + n = k + (n + 1) by omega] at ih
    have e : ∀ a, cm_fw f (k + 1) a = cm_fw f k (if P k = true then nI k else a) := fun a => by
      show cm_fw f k (if cm_opn f (f (49 + k)) = 1 ∧ cm_tru f (f (49 + k)) = false then nI k else a) = _
      by_cases c : P k = true
      · rw [if_pos c, if_pos ((hP k (by omega)).mpr c)]
      · rw [if_neg c, if_neg (fun z => c ((hP k (by omega)).mp z))]
    cases p : P k with
    | true =>
      right
      have q := (hQ k (by omega)).mp p
      refine ⟨k, by omega, p, ?_, fun a => ?_⟩
      · unfold cs_fu
        rw [if_neg (by rw [q.1]; decide), if_pos q.2]
      · rcases ih with ⟨-, h2⟩ | ⟨j, -, -, -, h2⟩
        · rw [h2, e, p]; rfl
        · rw [h2, e, p]; rfl
    | false =>
      have e2 : cs_fu S o (n + 1) k = cs_fu S o n (k + 1) := by
        conv => lhs; unfold cs_fu
        cases b : cs_tr S (cs_cl S k) with
        | true => rw [if_pos rfl]
        | false =>
          rw [if_neg (by decide), if_neg (fun z => by rw [(hQ k (by omega)).mpr ⟨b, z⟩] at p; cases p)]
      rw [e2]
      rcases ih with ⟨h1, h2⟩ | ⟨j, h0, hp, h1, h2⟩
      · exact Or.inl ⟨h1, fun a => by rw [h2, e, p]; rfl⟩
      · exact Or.inr ⟨j, h0, hp, h1, fun a => by rw [h2, e, p]; rfl⟩
/-- the clause with o open signs that is not true -/
def cr_P (S : cs_S) (o k : Nat) : Bool := !cs_tr S (cs_cl S k) && decide (fb_ct (bt (cs_op S (cs_cl S k))) 20 = o)
theorem cr_fu0 (h : crp y S f) : (cs_fu0 S = -nI 6 ∧ cm_fo f (cs_t S + cs_n S) (-nI 6) = -nI 6) ∨ ∃ j, j < cs_t S + cs_n S ∧ cr_P S 0 j = true ∧ cs_fu0 S = nI j ∧ cm_fo f (cs_t S + cs_n S) (-nI 6) = nI j := by
  have hb := fun k => fb_ct_le (bt (cs_op S (cs_cl S k))) 20
  have hP : ∀ k, k < cs_t S + cs_n S → cm_fa f (f (49 + k)) = cr_P S 0 k := fun k hk => by
    have hc := h.1.2.1 k hk
    unfold cm_fa cr_P
    rw [h.2.2.1 k hk, cr_tru h hc, (cr_opn h hc).2, Bool.and_comm]
  have hQ : ∀ k, k < cs_t S + cs_n S → (cr_P S 0 k = true ↔ cs_tr S (cs_cl S k) = false ∧ cb_bc (cs_op S (cs_cl S k)) = nI 0) := fun k hk => by
    have hc := h.1.2.1 k hk
    have e := cr_opn h hc
    unfold cr_P
    rw [Bool.and_eq_true, Bool.not_eq_true', decide_eq_true_eq, e.1, e.2, nI_eq (by have := hb k; omega) (by omega)]
  rcases cm_fo_first hP hQ (cs_t S + cs_n S) 0 (by omega) with ⟨h1, h2⟩ | ⟨j, h0, hp, h1, h2⟩
  · rw [Nat.zero_add] at h2
    exact Or.inl ⟨h1, h2 _⟩
  · rw [Nat.zero_add] at h2 h0
    exact Or.inr ⟨j, h0, hp, h1, h2 _⟩
theorem cr_fu1 (h : crp y S f) : (cs_fu1 S = -nI 6 ∧ cm_fw f (cs_t S + cs_n S) (-nI 6) = -nI 6) ∨ ∃ j, j < cs_t S + cs_n S ∧ cr_P S 1 j = true ∧ cs_fu1 S = nI j ∧ cm_fw f (cs_t S + cs_n S) (-nI 6) = nI j := by
  have hb := fun k => fb_ct_le (bt (cs_op S (cs_cl S k))) 20
  have hP : ∀ k, k < cs_t S + cs_n S → ((cm_opn f (f (49 + k)) = 1 ∧ cm_tru f (f (49 + k)) = false) ↔ cr_P S 1 k = true) := fun k hk => by
    have hc := h.1.2.1 k hk
    unfold cr_P
    rw [h.2.2.1 k hk, cr_tru h hc, (cr_opn h hc).2, Bool.and_eq_true, Bool.not_eq_true', decide_eq_true_eq, and_comm]
  have hQ : ∀ k, k < cs_t S + cs_n S → (cr_P S 1 k = true ↔ cs_tr S (cs_cl S k) = false ∧ cb_bc (cs_op S (cs_cl S k)) = nI 1) := fun k hk => by
    have hc := h.1.2.1 k hk
    have e := cr_opn h hc
    unfold cr_P
    rw [Bool.and_eq_true, Bool.not_eq_true', decide_eq_true_eq, e.1, e.2, nI_eq (by have := hb k; omega) (by omega)]
  rcases cm_fw_first hP hQ (cs_t S + cs_n S) 0 (by omega) with ⟨h1, h2⟩ | ⟨j, h0, hp, h1, h2⟩
  · rw [Nat.zero_add] at h2
    exact Or.inl ⟨h1, h2 _⟩
  · rw [Nat.zero_add] at h2 h0
    exact Or.inr ⟨j, h0, hp, h1, h2 _⟩
/-- one sign as a set -/
theorem cb_set_bt {k : Nat} (hk : k < 32) {i : Nat} (hi : i < 32) : bt (cb_set (nI k)) i = decide (i = k) := cb_one hk hi
theorem cr_c_set {th x : Nat} (h9 : th ≤ 9) (hx : cr_sg th x) : cr_c th (cb_set (nI x)) := by
  have q := cr_sg9 h9 hx
  refine ⟨fun i hi hb => ?_, fun i h1 h2 hb => ?_⟩
  · rw [cb_set_bt (by omega) hi, decide_eq_true_eq] at hb
    subst hb; exact hx
  · rw [cb_set_bt (by omega) (by omega), cb_set_bt (by omega) (by omega), decide_eq_true_eq, decide_eq_true_eq] at hb
    omega
theorem cr_open_thing (h : crp y S f) {x : Nat} (h1 : 1 ≤ x) (hx : x ≤ cs_k S) : (cs_op S (nI 1 <<< (nI x &&& 31)) = 0 ↔ ¬ f (19 + x) = -nI 6) ∧ (f (19 + x) = -nI 6 → ∀ i, cr_sg (cs_k S) i → i % 10 = x → bt (cs_va S) i = false ∧ bt (cs_va S) (cr_op i) = false) := by
  have h9 := cr_k9 h.1
  have hs : cr_sg (cs_k S) x := Or.inl ⟨h1, hx⟩
  have hv := (cr_val h hs).2
  rw [Nat.mod_eq_of_lt (show x < 10 by omega)] at hv
  have hc := cr_c_set h9 hs
  refine ⟨?_, fun e i hi hm => ?_⟩
  · show cs_op S (cb_set (nI x)) = 0 ↔ _
    rw [cb_zero]
    constructor
    · intro hz e
      have q := (cr_op_bt h.1 hc (i := x) (by omega)).mpr ⟨by rw [cb_set_bt (by omega) (by omega)]; exact decide_eq_true rfl, hv.mp e⟩
      rw [hz x (by omega)] at q
      cases q
    · intro hn i hi
      cases b : bt (cs_op S (cb_set (nI x))) i with
      | false => rfl
      | true =>
        have q := (cr_op_bt h.1 hc hi).mp b
        rw [cb_set_bt (by omega) hi, decide_eq_true_eq] at q
        obtain ⟨rfl, q2⟩ := q
        exact absurd (hv.mpr q2) hn
  · have q := hv.mp e
    rcases cr_two h9 hi hs (by rw [hm]; exact (Nat.mod_eq_of_lt (by omega)).symm) with rfl | rfl
    · exact q
    · rw [cr_op_op h9 hs]; exact ⟨q.2, q.1⟩
theorem cr_low_loop (h : crp y S f) : ∀ n t, t + n = cs_k S + 1 → 1 ≤ t → (cs_low S n t = -nI 6 ∧ ∀ a, cm_lw f (cs_k S) a = cm_lw f (t - 1) a) ∨ ∃ x, t ≤ x ∧ x ≤ cs_k S ∧ cs_low S n t = nI x ∧ f (19 + x) = -nI 6 ∧ ∀ a, cm_lw f (cs_k S) a = cm_lw f (t - 1) (nI x)
  | 0, t, h1, h2 => by
    left
    exact ⟨rfl, fun a => by rw [show t - 1 = cs_k S by omega]⟩
  | n + 1, t, h1, h2 => by
    have ih := cr_low_loop h n (t + 1) (by omega) (by omega)
    have q := (cr_open_thing h h2 (show t ≤ cs_k S by omega)).1
    obtain ⟨m, rfl⟩ : ∃ m, t = m + 1 := ⟨t - 1, by omega⟩
    have e : ∀ a, cm_lw f (m + 1) a = cm_lw f m (if f (19 + (m + 1)) = -nI 6 then nI (m + 1) else a) := fun a => rfl
    rw [show m + 1 + 1 - 1 = m + 1 by omega] at ih
    rw [show m + 1 - 1 = m by omega]
    unfold cs_low
    by_cases c : f (19 + (m + 1)) = -nI 6
    · rw [if_neg (fun z => (q.mp z) c)]
      right
      refine ⟨m + 1, by omega, by omega, rfl, c, fun a => ?_⟩
      rcases ih with ⟨-, h3⟩ | ⟨x, -, -, -, -, h3⟩
      · rw [h3, e, if_pos c]
      · rw [h3, e, if_pos c]
    · rw [if_pos (q.mpr c)]
      rcases ih with ⟨h4, h3⟩ | ⟨x, h5, h6, h4, h7, h3⟩
      · exact Or.inl ⟨h4, fun a => by rw [h3, e, if_neg c]⟩
      · exact Or.inr ⟨x, by omega, h6, h4, h7, fun a => by rw [h3, e, if_neg c]⟩
theorem cr_low (h : crp y S f) : (cs_lo S = -nI 6 ∧ cm_lw f (cs_k S) (-nI 6) = -nI 6) ∨ ∃ x, 1 ≤ x ∧ x ≤ cs_k S ∧ cs_lo S = nI x ∧ f (19 + x) = -nI 6 ∧ cm_lw f (cs_k S) (-nI 6) = nI x := by
  rcases cr_low_loop h (cs_k S) 1 (by omega) (by omega) with ⟨h1, h2⟩ | ⟨x, h5, h6, h4, h7, h3⟩
  · exact Or.inl ⟨h1, h2 _⟩
  · exact Or.inr ⟨x, h5, h6, h4, h7, h3 _⟩
/-- levels -/
theorem cr_pl (h : cr_I S) : cs_pl S (cs_g S) = nI (cs_pv S (cs_g S)) := by
  unfold cs_pl cs_pv
  by_cases c : cs_g S = 0
  · rw [if_pos c, if_pos c]
  · rw [if_neg c, if_neg c]
    exact (h.2.2.1.1 (cs_g S - 1) (by omega)).2.2.1
theorem cr_mono1 (h : cr_I S) {k : Nat} (hk : k < cs_g S) : cs_pv S k ≤ cs_l S k ∧ cs_l S k ≤ cs_pv S k + 1 := by
  rcases h.2.2.2 k hk with ⟨e, -⟩ | ⟨e, -⟩ <;> omega
theorem cr_mono (h : cr_I S) {j : Nat} : ∀ k, j ≤ k → k < cs_g S → cs_l S j ≤ cs_l S k := by
  intro k
  induction k with
  | zero => intro h1 h2; rw [show j = 0 by omega]; exact Nat.le_refl _
  | succ k ih =>
    intro h1 h2
    by_cases e : j = k + 1
    · subst e; exact Nat.le_refl _
    · have i1 := ih (by omega) (by omega)
      have i2 := (cr_mono1 h h2).1
      have i3 : cs_pv S (k + 1) = cs_l S k := by unfold cs_pv; rw [if_neg (by omega)]; rfl
      omega
theorem cr_pv_le (h : cr_I S) : cs_pv S (cs_g S) ≤ cs_g S := by
  unfold cs_pv
  split
  · omega
  · rename_i c
    have := (h.2.2.1.1 (cs_g S - 1) (by omega)).2.2.2
    omega
/-- a value given -/
theorem cr_g8 (h : cr_I S) {i : Nat} (hi : cr_sg (cs_k S) i) (v1 : bt (cs_va S) i = false) (v2 : bt (cs_va S) (cr_op i) = false) : cs_g S ≤ 8 ∧ ∀ k, k < cs_g S → cs_s S k % 10 ≠ i % 10 := by
  have h9 := cr_k9 h
  have hx : ∀ k, k < cs_g S → cs_s S k % 10 ≠ i % 10 := by
    rcases cr_x h hi with ⟨a, -⟩ | ⟨-, a, -⟩ | ⟨-, -, a⟩
    · rw [v1] at a; cases a
    · rw [v2] at a; cases a
    · exact a
  have q := cr_sg9 h9 hi
  refine ⟨pg_inj (r := fun k => cs_s S k % 10) (x := i % 10) ⟨q.2.2.2.1, by omega⟩ (cs_g S) (fun k hk => ?_) (fun j k hjk hk => h.2.2.1.2.1 j k hjk hk), hx⟩
  have := cr_sg9 h9 (h.2.2.1.1 k hk).2.1
  exact ⟨this.2.2.2.1, by omega, hx k hk⟩
theorem cr_give (h : crp y S f) {i m : Nat} {r : Int32} (hi : cr_sg (cs_k S) i) (v1 : bt (cs_va S) i = false) (v2 : bt (cs_va S) (cr_op i) = false) (hm : m ≤ cs_g S + 1)
    (hr : (m = cs_pv S (cs_g S) ∧ ∃ c, c < cs_t S + cs_n S ∧ r = nI c ∧ bt (cs_cl S c) i = true ∧ ∀ j, j < 32 → bt (cs_cl S c) j = true → j = i ∨ ∃ k, k < cs_g S ∧ cs_s S k = cr_op j) ∨ (m = cs_pv S (cs_g S) + 1 ∧ r = -nI 6)) :
    crp y (cs_give S (nI i) (nI m) r) (cm_gv (upd f 6 (nI m)) (cs_g S) (i % 10) (cb_wa i) r) := by
  have h9 := cr_k9 h.1
  obtain ⟨g8, hx⟩ := cr_g8 h.1 hi v1 v2
  have qi := cr_sg9 h9 hi
  obtain ⟨⟨hIs, hIc, hIt, hIr⟩, hF0, hFc, hFt, hFx⟩ := h
  have hB := hIs.1
  have e0 : cs_give S (nI i) (nI m) r = (S.1, S.2.1, S.2.2.1, S.2.2.2.1, S.2.2.2.2.1, S.2.2.2.2.2.1, cs_gi S + nI 1, upd (cs_sg S) (cs_g S) (nI i), upd (cs_lv S) (cs_g S) (nI m), upd (cs_rs S) (cs_g S) r, cs_va S ||| cb_set (nI i), S.2.2.2.2.2.2.2.2.2.2.2) := if_pos (by omega)
  have hB2 := cs_Bd_give hB (nI i) (nI m) r
  have eg : cs_gi S + nI 1 = nI (cs_g S + 1) := by rw [hB.1.1, nI_add]
  rw [e0] at hB2 ⊢
  obtain ⟨S', hS'⟩ : ∃ S', S' = ((S.1, S.2.1, S.2.2.1, S.2.2.2.1, S.2.2.2.2.1, S.2.2.2.2.2.1, cs_gi S + nI 1, upd (cs_sg S) (cs_g S) (nI i), upd (cs_lv S) (cs_g S) (nI m), upd (cs_rs S) (cs_g S) r, cs_va S ||| cb_set (nI i), S.2.2.2.2.2.2.2.2.2.2.2) : cs_S) := ⟨_, rfl⟩
  rw [← hS'] at hB2 ⊢
  have fg : cs_g S' = cs_g S + 1 := cs_g_nI (by rw [hS']; exact eg) (by omega)
  have ft : cs_t S' = cs_t S := by rw [hS']; rfl
  have fn : cs_n S' = cs_n S := by rw [hS']; rfl
  have fk : cs_k S' = cs_k S := by rw [hS']; rfl
  have fcl : cs_cl S' = cs_cl S := by rw [hS']
  have fsg : cs_sg S' = upd (cs_sg S) (cs_g S) (nI i) := by rw [hS']
  have flv : cs_lv S' = upd (cs_lv S) (cs_g S) (nI m) := by rw [hS']
  have frs : cs_rs S' = upd (cs_rs S) (cs_g S) r := by rw [hS']
  have fva : cs_va S' = cs_va S ||| cb_set (nI i) := by rw [hS']
  have s1 : ∀ k, k < cs_g S → cs_s S' k = cs_s S k := fun k hk => by unfold cs_s; rw [fsg, pk_un (by omega)]
  have s2 : cs_s S' (cs_g S) = i := by unfold cs_s; rw [fsg, pk_us, nI_clamp (by omega)]
  have l1 : ∀ k, k < cs_g S → cs_l S' k = cs_l S k := fun k hk => by unfold cs_l; rw [flv, pk_un (by omega)]
  have l2 : cs_l S' (cs_g S) = m := by unfold cs_l; rw [flv, pk_us, nI_clamp (by omega)]
  have p1 : ∀ k, k ≤ cs_g S → cs_pv S' k = cs_pv S k := fun k hk => by
    unfold cs_pv
    by_cases c : k = 0
    · rw [if_pos c, if_pos c]
    · rw [if_neg c, if_neg c, l1 (k - 1) (by omega)]
  have sp : ∀ k, k < cs_g S + 1 → k < cs_g S ∨ k = cs_g S := fun k hk => by omega
  refine ⟨⟨⟨hB2, by rw [fk]; exact hIs.2.1, by rw [hS']; exact hIs.2.2.1, by rw [hS']; exact hIs.2.2.2.1, by rw [hS']; exact hIs.2.2.2.2⟩, fun k hk => ?_, ⟨fun k hk => ?_, fun j k hjk hk => ?_, fun j hj => ?_⟩, fun k hk => ?_⟩, ⟨?_, ?_, ?_, ?_, ?_, ?_, ?_, ?_, ?_, ?_⟩, fun k hk => ?_, fun k hk => ?_, fun x hx9 hxk => ?_⟩
  · rw [ft, fn] at hk; rw [fk, fcl]; exact hIc k hk
  · rw [fg] at hk
    rcases sp k hk with q | rfl
    · rw [s1 k q, l1 k q, fk, fsg, flv, pk_un (by omega), pk_un (by omega)]; exact hIt.1 k q
    · rw [s2, l2, fk, fsg, flv, pk_us, pk_us]; exact ⟨rfl, hi, rfl, hm⟩
  · rw [fg] at hk
    rcases sp k hk with q | rfl
    · rw [s1 k q, s1 j (by omega)]; exact hIt.2.1 j k hjk q
    · rw [s2, s1 j hjk]; exact hx j hjk
  · rw [fg, fva, b_or, cb_set_bt (by omega) hj, Bool.or_eq_true, decide_eq_true_eq, hIt.2.2 j hj]
    constructor
    · rintro (⟨k, hk, e⟩ | rfl)
      · exact ⟨k, by omega, by rw [s1 k hk]; exact e⟩
      · exact ⟨cs_g S, by omega, s2⟩
    · rintro ⟨k, hk, e⟩
      rcases sp k hk with q | rfl
      · exact Or.inl ⟨k, q, by rw [← s1 k q]; exact e⟩
      · right; rw [← e, s2]
  · rw [fg] at hk
    unfold cr_r
    rcases sp k hk with q | rfl
    · rw [l1 k q, p1 k (by omega), frs, pk_un (by omega), fcl, s1 k q, ft, fn]
      rcases hIr k q with ⟨a, c, hc, b1, b2, b3⟩ | a
      · left
        refine ⟨a, c, hc, b1, b2, fun j hj hb => ?_⟩
        rcases b3 j hj hb with z | ⟨y, hy, z⟩
        · exact Or.inl z
        · exact Or.inr ⟨y, hy, by rw [s1 y (by omega)]; exact z⟩
      · exact Or.inr a
    · rw [l2, p1 _ (Nat.le_refl _), frs, pk_us, fcl, s2, ft, fn]
      rcases hr with ⟨a, c, hc, b1, b2, b3⟩ | a
      · left
        refine ⟨a, c, hc, b1, b2, fun j hj hb => ?_⟩
        rcases b3 j hj hb with z | ⟨y, hy, z⟩
        · exact Or.inl z
        · exact Or.inr ⟨y, hy, by rw [s1 y hy]; exact z⟩
      · exact Or.inr a
  all_goals unfold cm_gv
  · rw [pk_un (by omega), pk_un (by omega), pk_un (by omega), pk_un (by omega), pk_un (by omega), pk_un (by omega), hS']; exact hF0.1
  · rw [pk_un (by omega), pk_un (by omega), pk_un (by omega), pk_un (by omega), pk_un (by omega), pk_un (by omega), hS']; exact hF0.2.1
  · rw [pk_un (by omega), pk_un (by omega), pk_un (by omega), pk_un (by omega), pk_un (by omega), pk_un (by omega), hS']; exact hF0.2.2.1
  · rw [pk_un (by omega), pk_un (by omega), pk_un (by omega), pk_un (by omega), pk_un (by omega), pk_un (by omega), hS']; exact hF0.2.2.2.1
  · rw [pk_un (by omega), pk_un (by omega), pk_un (by omega), pk_un (by omega), pk_un (by omega), pk_un (by omega), hS']; exact hF0.2.2.2.2.1
  · rw [pk_un (by omega), pk_un (by omega), pk_un (by omega), pk_un (by omega), pk_un (by omega), pk_un (by omega), hS']; exact hF0.2.2.2.2.2.1
  · rw [pk_un (by omega), pk_un (by omega), pk_un (by omega), pk_un (by omega), pk_un (by omega), pk_us, fg]
    unfold cs_pl
    rw [if_neg (by omega), flv, Nat.add_sub_cancel, pk_us]
  · rw [pk_un (by omega), pk_un (by omega), pk_un (by omega), pk_us, hS']; exact eg.symm
  · rw [pk_un (by omega), pk_un (by omega), pk_un (by omega), pk_un (by omega), pk_un (by omega), pk_un (by omega), hS']; exact hF0.2.2.2.2.2.2.2.2.1
  · rw [pk_un (by omega), pk_un (by omega), pk_un (by omega), pk_un (by omega), pk_un (by omega), pk_un (by omega)]; exact hF0.2.2.2.2.2.2.2.2.2
  · rw [ft, fn] at hk
    rw [pk_un (by omega), pk_un (by omega), pk_un (by omega), pk_un (by omega), pk_un (by omega), pk_un (by omega), fcl]; exact hFc k hk
  · rw [fg] at hk
    rcases sp k hk with q | rfl
    · have hs := cr_sg9 h9 (hIt.1 k q).2.1
      have hne := hx k q
      obtain ⟨a1, a2, a3, a4⟩ := hFt k q
      rw [s1 k q, flv, frs, pk_un (show k ≠ cs_g S by omega), pk_un (show k ≠ cs_g S by omega)]
      refine ⟨?_, ?_, ?_, ?_⟩
      · rw [pk_un (by omega), pk_un (by omega), pk_un (by omega), pk_un (by omega), pk_un (by omega), pk_un (by omega)]; exact a1
      · rw [pk_un (by omega), pk_un (by omega), pk_un (by omega), pk_un (by omega), pk_un (by omega), pk_un (by omega)]; exact a2
      · rw [pk_un (by omega), pk_un (by omega), pk_un (by omega), pk_un (by omega), pk_un (by omega), pk_un (by omega)]; exact a3
      · rw [pk_un (by omega), pk_un (by omega), pk_un (by omega), pk_un (by omega), pk_un (by omega), pk_un (by omega)]; exact a4
    · rw [s2, flv, frs, pk_us, pk_us]
      refine ⟨?_, ?_, ?_, ?_⟩
      · rw [pk_un (by omega), pk_un (by omega), pk_un (by omega), pk_un (by omega), pk_us]
      · rw [pk_un (by omega), pk_un (by omega), pk_us]
      · rw [pk_un (by omega), pk_us]
      · rw [pk_us, pk_us]
  · rw [fg] at hxk
    have hne : i % 10 ≠ x := by rw [← s2]; exact hxk (cs_g S) (by omega)
    obtain ⟨a1, a2, a3⟩ := hFx x hx9 (fun k hk => by rw [← s1 k hk]; exact hxk k (by omega))
    refine ⟨?_, ?_, ?_⟩
    · rw [pk_un (by omega), pk_un (by omega), pk_un (by omega), pk_un (by omega), pk_un (by omega), pk_un (by omega)]; exact a1
    · rw [pk_un (by omega), pk_un (by omega), pk_un (by omega), pk_un (by omega), pk_un (by omega), pk_un (by omega)]; exact a2
    · rw [pk_un (by omega), pk_un (by omega), pk_un (by omega), pk_un (by omega), pk_un (by omega), pk_un (by omega)]; exact a3
end CR3
