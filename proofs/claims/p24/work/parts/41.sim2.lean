/-! settings, clauses that go, searches that are only tried -/
def fg_gr (P : Nat → Bool) : Nat → Nat → Nat → Nat
  | 0, _, g => g
  | n + 1, t, g => fg_gr P n (t + 1) (if P t then t else g)
theorem fg_le (P : Nat → Bool) (m : Nat) : ∀ n t g, g ≤ t → (fg_gr P n t g ≤ m ↔ g ≤ m ∧ ∀ x, t ≤ x → x < t + n → P x = true → x ≤ m)
  | 0, t, g, _ => ⟨fun h => ⟨h, fun x h1 h2 => absurd h2 (by omega)⟩, fun h => h.1⟩
  | n + 1, t, g, h => by
    unfold fg_gr
    rw [fg_le P m n (t + 1) _ (by split <;> omega)]
    constructor
    · rintro ⟨a, b⟩
      cases c : P t with
      | true =>
        rw [c, if_pos rfl] at a
        refine ⟨by omega, fun x h1 h2 h3 => ?_⟩
        by_cases q : x = t
        · rw [q]; exact a
        · exact b x (by omega) (by omega) h3
      | false =>
        rw [c, if_neg (fun q => by cases q)] at a
        refine ⟨a, fun x h1 h2 h3 => ?_⟩
        by_cases q : x = t
        · rw [q, c] at h3; cases h3
        · exact b x (by omega) (by omega) h3
    · rintro ⟨a, b⟩
      refine ⟨?_, fun x h1 h2 h3 => b x (by omega) (by omega) h3⟩
      split
      · rename_i c; exact b t (Nat.le_refl _) (by omega) c
      · exact a
theorem cm_gi_gr (c : Int32) : ∀ n x a, x + n = 10 → cm_gi c n x (nI a) = nI (fg_gr (fun x => bt c x || bt c (x + 10)) n x a)
  | 0, _, _, _ => rfl
  | n + 1, x, a, h => by
    unfold cm_gi fg_gr
    by_cases q : cm_so c x = -nI 6
    · have q2 := (cm_so_none (by omega)).mp q
      rw [if_pos q, if_neg (by rw [q2.1, q2.2]; exact Bool.false_ne_true)]
      exact cm_gi_gr c n (x + 1) a (by omega)
    · rw [if_neg q, if_pos (by
        cases e1 : bt c x with
        | true => rfl
        | false =>
          cases e2 : bt c (x + 10) with
          | true => rfl
          | false => exact absurd ((cm_so_none (by omega)).mpr ⟨e1, e2⟩) q)]
      exact cm_gi_gr c n (x + 1) x (by omega)
theorem cb_gr_gr (X : Int32) : ∀ n t g, cb_gr X n t (nI g) = nI (fg_gr (fun t => bt (X ||| cb_op X) t) n t g)
  | 0, _, _ => rfl
  | n + 1, t, g => by
    unfold cb_gr fg_gr
    split
    · exact cb_gr_gr X n (t + 1) t
    · exact cb_gr_gr X n (t + 1) g
def cm_g1 (c : Int32) : Nat := fg_gr (fun x => bt c x || bt c (x + 10)) 9 1 0
theorem cm_g1_le {c : Int32} {m : Nat} : cm_g1 c ≤ m ↔ ∀ x, 1 ≤ x → x ≤ 9 → (bt c x = true ∨ bt c (x + 10) = true) → x ≤ m := by
  unfold cm_g1
  rw [fg_le _ _ _ _ _ (by omega)]
  constructor
  · intro h x h1 h2 h3
    exact h.2 x h1 (by omega) (by rw [Bool.or_eq_true]; exact h3)
  · intro h
    refine ⟨Nat.zero_le _, fun x h1 h2 h3 => h x h1 (by omega) ?_⟩
    rw [Bool.or_eq_true] at h3
    exact h3
theorem cm_g1_9 (c : Int32) : cm_g1 c ≤ 9 := cm_g1_le.mpr (fun x _ h _ => h)
theorem cm_gi_1 (c : Int32) : cm_gi c 9 1 (nI 0) = nI (cm_g1 c) := cm_gi_gr c 9 1 0 rfl
theorem cm_gt_mx (f : Nat → Int32) : ∀ n k a, a ≤ 9 → ∃ r, r ≤ 9 ∧ cm_gt f n k (nI a) = nI r ∧ ∀ m, r ≤ m ↔ a ≤ m ∧ ∀ j, k ≤ j → j < k + n → cm_g1 (f (49 + j)) ≤ m
  | 0, k, a, h => ⟨a, h, rfl, fun m => ⟨fun q => ⟨q, fun j h1 h2 => absurd h2 (by omega)⟩, fun q => q.1⟩⟩
  | n + 1, k, a, h => by
    have g9 := cm_g1_9 (f (49 + k))
    unfold cm_gt
    rw [cm_gi_1]
    by_cases c : a < cm_g1 (f (49 + k))
    · rw [if_pos (nI_lt c (by omega))]
      obtain ⟨r, r9, e, q⟩ := cm_gt_mx f n (k + 1) _ g9
      refine ⟨r, r9, e, fun m => (q m).trans ⟨fun ⟨a1, a2⟩ => ⟨by omega, fun j h1 h2 => ?_⟩, fun ⟨a1, a2⟩ => ⟨a2 k (Nat.le_refl _) (by omega), fun j h1 h2 => a2 j (by omega) (by omega)⟩⟩⟩
      by_cases z : j = k
      · rw [z]; exact a1
      · exact a2 j (by omega) (by omega)
    · rw [if_neg (nI_nlt (by omega) (by omega))]
      obtain ⟨r, r9, e, q⟩ := cm_gt_mx f n (k + 1) a h
      refine ⟨r, r9, e, fun m => (q m).trans ⟨fun ⟨a1, a2⟩ => ⟨a1, fun j h1 h2 => ?_⟩, fun ⟨a1, a2⟩ => ⟨a1, fun j h1 h2 => a2 j (by omega) (by omega)⟩⟩⟩
      by_cases z : j = k
      · rw [z]; omega
      · exact a2 j (by omega) (by omega)
theorem cs_all_bt (S : cs_S) (i : Nat) : ∀ n k a, bt (cs_all S n k a) i = true ↔ bt a i = true ∨ ∃ j, k ≤ j ∧ j < k + n ∧ bt (cs_cl S j) i = true
  | 0, k, a => ⟨Or.inl, fun h => h.elim id (fun ⟨j, h1, h2, _⟩ => absurd h2 (by omega))⟩
  | n + 1, k, a => by
    unfold cs_all
    rw [cs_all_bt S i n (k + 1), b_or, Bool.or_eq_true]
    constructor
    · rintro ((h | h) | ⟨j, h1, h2, h3⟩)
      · exact Or.inl h
      · exact Or.inr ⟨k, Nat.le_refl _, by omega, h⟩
      · exact Or.inr ⟨j, by omega, by omega, h3⟩
    · rintro (h | ⟨j, h1, h2, h3⟩)
      · exact Or.inl (Or.inl h)
      · by_cases q : j = k
        · rw [q] at h3; exact Or.inl (Or.inr h3)
        · exact Or.inr ⟨j, by omega, by omega, h3⟩
theorem cr_gt {S : cs_S} {f : Nat → Int32} (h : cr_S0 S f) : ∃ r, r ≤ 9 ∧ cm_gt f (cs_t S) 0 (nI 0) = nI r ∧ cb_gr (cs_all S (cs_t S) 0 (nI 0)) 9 1 (nI 0) = nI r ∧ ∀ m, r ≤ m ↔ ∀ k, k < cs_t S → cm_g1 (cs_cl S k) ≤ m := by
  obtain ⟨ht, hk, -, -, -, hc⟩ := h
  obtain ⟨r, r9, e, q⟩ := cm_gt_mx f (cs_t S) 0 0 (by omega)
  have q2 : ∀ m, r ≤ m ↔ ∀ k, k < cs_t S → cm_g1 (cs_cl S k) ≤ m := fun m => by
    rw [q m]
    constructor
    · rintro ⟨-, a⟩ k hk
      rw [← (hc k hk).2]
      exact a k (Nat.zero_le _) (by omega)
    · intro a
      refine ⟨Nat.zero_le _, fun k _ hk => ?_⟩
      rw [(hc k (by omega)).2]
      exact a k (by omega)
  refine ⟨r, r9, e, ?_, q2⟩
  rw [cb_gr_gr]
  congr 1
  have sg : ∀ i, i < 32 → bt (cs_all S (cs_t S) 0 (nI 0)) i = true → cr_sg 9 i := fun i hi hb => by
    rcases (cs_all_bt S i _ _ _).mp hb with z | ⟨j, _, hj, z⟩
    · rw [show nI 0 = (0 : Int32) from rfl, b_0] at z; cases z
    · exact cr_sg_mono hk.2.2 ((hc j (by omega)).1.1 i hi z)
  have key : ∀ m, fg_gr (fun t => bt (cs_all S (cs_t S) 0 (nI 0) ||| cb_op (cs_all S (cs_t S) 0 (nI 0))) t) 9 1 0 ≤ m ↔ r ≤ m := fun m => by
    rw [fg_le _ _ _ _ _ (by omega), q2]
    have P : ∀ x, 1 ≤ x → x ≤ 9 → (bt (cs_all S (cs_t S) 0 (nI 0) ||| cb_op (cs_all S (cs_t S) 0 (nI 0))) x = true ↔ ∃ k, k < cs_t S ∧ (bt (cs_cl S k) x = true ∨ bt (cs_cl S k) (x + 10) = true)) := fun x h1 h9 => by
      rw [b_or, Bool.or_eq_true, cb_op_bt sg (by omega), show cr_op x = x + 10 from if_pos (by omega), cs_all_bt, cs_all_bt]
      constructor
      · rintro ((z | ⟨j, _, hj, z⟩) | ⟨_, z | ⟨j, _, hj, z⟩⟩)
        · rw [show nI 0 = (0 : Int32) from rfl, b_0] at z; cases z
        · exact ⟨j, by omega, Or.inl z⟩
        · rw [show nI 0 = (0 : Int32) from rfl, b_0] at z; cases z
        · exact ⟨j, by omega, Or.inr z⟩
      · rintro ⟨j, hj, z | z⟩
        · exact Or.inl (Or.inr ⟨j, Nat.zero_le _, by omega, z⟩)
        · exact Or.inr ⟨Or.inl ⟨h1, h9⟩, Or.inr ⟨j, Nat.zero_le _, by omega, z⟩⟩
    constructor
    · rintro ⟨-, a⟩ k hk
      exact cm_g1_le.mpr (fun x h1 h9 hb => a x h1 (by omega) ((P x h1 h9).mpr ⟨k, hk, hb⟩))
    · intro a
      refine ⟨Nat.zero_le _, fun x h1 h2 hb => ?_⟩
      obtain ⟨k, hk, hb⟩ := (P x h1 (by omega)).mp hb
      exact cm_g1_le.mp (a k hk) x h1 (by omega) hb
  exact Nat.le_antisymm ((key r).mpr (Nat.le_refl _)) ((key _).mp (Nat.le_refl _))
theorem cr_c_g1 {a b : Nat} {c : Int32} (h9 : a ≤ 9) (h : cr_c a c) (hg : cm_g1 c ≤ b) : cr_c b c := by
  refine ⟨fun i hi hb => ?_, h.2⟩
  have q := h.1 i hi hb
  rcases q with q | q
  · exact Or.inl ⟨q.1, cm_g1_le.mp hg i q.1 (by omega) (Or.inl hb)⟩
  · have := cm_g1_le.mp hg (i - 10) (by omega) (by omega) (Or.inr (by rw [show i - 10 + 10 = i by omega]; exact hb))
    exact Or.inr ⟨q.1, by omega⟩
theorem crp_re {y : Int32} {S : cs_S} {f : Nat → Int32} (h : crp y S f) {r : Nat} (h1 : 1 ≤ r) (h2 : r ≤ 20) : crp y (cs_wre S (nI r)) (upd f 1 (nI r)) := by
  have g9 := cr_g9 h.1
  have k9 := cr_k9 h.1
  obtain ⟨⟨hIs, hIc, hIt, hIr⟩, hF0, hFc, hFt, hFx⟩ := h
  refine ⟨⟨⟨hIs.1, hIs.2.1, ⟨r, h1, h2, rfl⟩, hIs.2.2.2.1, hIs.2.2.2.2⟩, hIc, hIt, hIr⟩, ⟨(pk_un (by omega)).trans hF0.1, pk_us, (pk_un (by omega)).trans hF0.2.2.1, (pk_un (by omega)).trans hF0.2.2.2.1, (pk_un (by omega)).trans hF0.2.2.2.2.1, (pk_un (by omega)).trans hF0.2.2.2.2.2.1, (pk_un (by omega)).trans hF0.2.2.2.2.2.2.1, (pk_un (by omega)).trans hF0.2.2.2.2.2.2.2.1, (pk_un (by omega)).trans hF0.2.2.2.2.2.2.2.2.1, (pk_un (by omega)).trans hF0.2.2.2.2.2.2.2.2.2⟩, fun k hk => (pk_un (by omega)).trans (hFc k hk), fun k hk => ?_, fun x hx9 hxk => ?_⟩
  · have q := hFt k hk
    exact ⟨(pk_un (by omega)).trans q.1, (pk_un (by omega)).trans q.2.1, (pk_un (by omega)).trans q.2.2.1, (pk_un (by omega)).trans q.2.2.2⟩
  · have q := hFx x hx9 hxk
    exact ⟨(pk_un (by omega)).trans q.1, (pk_un (by omega)).trans q.2.1, (pk_un (by omega)).trans q.2.2⟩
theorem crp_fi {y : Int32} {S : cs_S} {f : Nat → Int32} (h : crp y S f) {v : Int32} (hv : v = nI 0 ∨ v = nI 1) : crp y (cs_wfi S v) (upd f 2 v) := by
  have g9 := cr_g9 h.1
  have k9 := cr_k9 h.1
  obtain ⟨⟨hIs, hIc, hIt, hIr⟩, hF0, hFc, hFt, hFx⟩ := h
  refine ⟨⟨⟨hIs.1, hIs.2.1, hIs.2.2.1, hv, hIs.2.2.2.2⟩, hIc, hIt, hIr⟩, ⟨(pk_un (by omega)).trans hF0.1, (pk_un (by omega)).trans hF0.2.1, pk_us, (pk_un (by omega)).trans hF0.2.2.2.1, (pk_un (by omega)).trans hF0.2.2.2.2.1, (pk_un (by omega)).trans hF0.2.2.2.2.2.1, (pk_un (by omega)).trans hF0.2.2.2.2.2.2.1, (pk_un (by omega)).trans hF0.2.2.2.2.2.2.2.1, (pk_un (by omega)).trans hF0.2.2.2.2.2.2.2.2.1, (pk_un (by omega)).trans hF0.2.2.2.2.2.2.2.2.2⟩, fun k hk => (pk_un (by omega)).trans (hFc k hk), fun k hk => ?_, fun x hx9 hxk => ?_⟩
  · have q := hFt k hk
    exact ⟨(pk_un (by omega)).trans q.1, (pk_un (by omega)).trans q.2.1, (pk_un (by omega)).trans q.2.2.1, (pk_un (by omega)).trans q.2.2.2⟩
  · have q := hFx x hx9 hxk
    exact ⟨(pk_un (by omega)).trans q.1, (pk_un (by omega)).trans q.2.1, (pk_un (by omega)).trans q.2.2⟩
theorem cb_wi01 {x : Int32} : cb_wi x (nI 0) (nI 1) = true ↔ x = nI 0 ∨ x = nI 1 := by
  constructor
  · intro h
    obtain ⟨k, _, hk, rfl⟩ := cb_wi_nat (by omega) (by omega) h
    rcases (show k = 0 ∨ k = 1 by omega) with rfl | rfl
    · exact Or.inl rfl
    · exact Or.inr rfl
  · rintro (rfl | rfl) <;> decide
section SIM
variable {l : Launch} {u : Nat} {N T : cs_S} {H G : Nat → Option Nat} {f : Nat → Int32} {n : Nat} {L : List cs_S} {M : cm_S}
theorem cm_kp_at (M : cm_S) (f2 : Nat → Int32) {k : Nat} (hk : k < 109) : cm_cp (cm_kp M) f2 0 0 109 k = cm_st M k := by
  unfold cm_cp
  rw [if_pos ⟨by omega, by omega⟩]
  show cm_cp M.1 M.2.1 0 0 109 (0 + (k - 0)) = _
  unfold cm_cp
  rw [if_pos ⟨by omega, by omega⟩, show 0 + (0 + (k - 0) - 0) = k by omega]
theorem cc_R_back (hR : cc_R u N H G f n L M) (f2 : Nat → Int32) : cc_R u N H G f n L (cm_cp (cm_kp M) f2 0 0 109, cm_kp M, M.2.2) := by
  obtain ⟨hok, hN, hrc, hRh, hRs, hRp, hpn⟩ := hR
  exact ⟨hok, cr_congr hN (fun k hk => cm_kp_at M f2 hk), hrc, hRh, hRs, hRp, hpn⟩
theorem cb_th_big {s : Nat} (h : 10 ≤ s) (hs : s < 2 ^ 31) : cb_th (nI s) = nI (s - 10) := by
  unfold cb_th
  rw [if_neg (nI_nlt h hs)]
  obtain ⟨r, rfl⟩ : ∃ r, s = r + 10 := ⟨s - 10, by omega⟩
  rw [Nat.add_sub_cancel, ← nI_add, Int32.add_sub_cancel]
end SIM
