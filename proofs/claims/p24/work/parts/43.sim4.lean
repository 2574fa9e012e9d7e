/-! what is put on the pad -/
theorem cm_rs_nat (x : Int64) : ∀ m, (cm_rs x m).toUInt64.toNat = x.toUInt64.toNat / 2 ^ (8 * m)
  | 0 => (Nat.div_one _).symm
  | m + 1 => by
    have ih := cm_rs_nat x m
    have e : (cm_rs x (m + 1)).toUInt64 = (cm_rs x m).toUInt64 >>> ((nI 8).toInt64.toUInt64 &&& Int64.toUInt64 63) := UInt64.toUInt64_toInt64 _
    rw [e, UInt64.toNat_shiftRight, show ((nI 8).toInt64.toUInt64 &&& Int64.toUInt64 63).toNat % 64 = 8 by decide +kernel, ih, Nat.shiftRight_eq_div_pow, Nat.div_div_eq_div_mul, ← Nat.pow_add, show 8 * m + 8 = 8 * (m + 1) by omega]
theorem cp_sh_s : ∀ m, m < 8 → ((nI 8 * nI m).toInt64.toUInt64 &&& Int64.toUInt64 63).toNat % 64 = 8 * m := by decide +kernel
theorem cp_sh_nat (x : Int64) {m : Nat} (h : m < 8) : (cp_sh x m).toUInt64.toNat = x.toUInt64.toNat / 2 ^ (8 * m) := by
  have e : (cp_sh x m).toUInt64 = x.toUInt64 >>> ((nI 8 * nI m).toInt64.toUInt64 &&& Int64.toUInt64 63) := UInt64.toUInt64_toInt64 _
  rw [e, UInt64.toNat_shiftRight, cp_sh_s m h, Nat.shiftRight_eq_div_pow]
theorem i64_inj {a b : Int64} (h : a.toUInt64 = b.toUInt64) : a = b := by
  rcases a with ⟨x⟩
  rcases b with ⟨y⟩
  exact congrArg Int64.ofUInt64 h
theorem cp_sh_rs (x : Int64) {m : Nat} (h : m < 8) : cm_rs x m = cp_sh x m := by
  apply i64_inj
  apply UInt64.toNat_inj.mp
  rw [cm_rs_nat, cp_sh_nat x h]
theorem cm_rs_8 (x : Int64) : cm_rs x 8 = 0 := by
  apply i64_inj
  apply UInt64.toNat_inj.mp
  rw [cm_rs_nat, Nat.div_eq_of_lt (show x.toUInt64.toNat < 2 ^ (8 * 8) from UInt64.toNat_lt _)]
  rfl
theorem cm_pl_false (x : Int64) : ∀ n m, (cm_pl x n m false).2 = false
  | 0, _ => rfl
  | n + 1, m => by
    unfold cm_pl
    split
    · rfl
    · exact cm_pl_false x n (m + 1)
theorem cp_pl (x : Int64) : ∀ n m, m + n = 8 → ((cm_pl x n m true).2 = false ∧ cp_ci x n m = nI 0) ∨ ((cm_pl x n m true).2 = true ∧ m ≤ (cm_pl x n m true).1 ∧ (cm_pl x n m true).1 ≤ 8 ∧ (∀ j, m ≤ j → j < (cm_pl x n m true).1 → cb_wi (cp_cd x j) (nI 33) (nI 126) = true) ∧ ((cm_rs x (cm_pl x n m true).1 = 0 ∧ cp_ci x n m = nI (cm_pl x n m true).1) ∨ (cm_rs x (cm_pl x n m true).1 ≠ 0 ∧ cp_ci x n m = nI 0)))
  | 0, m, h => by
    obtain rfl : m = 8 := by omega
    exact Or.inr ⟨rfl, Nat.le_refl _, Nat.le_refl _, fun j h1 h2 => absurd h2 (Nat.not_lt.mpr h1), Or.inl ⟨cm_rs_8 x, rfl⟩⟩
  | n + 1, m, h => by
    have er := cp_sh_rs x (m := m) (by omega)
    by_cases c : lg_cmp (cm_rs x m &&& 255) (Int64.ofNat 0) = 0
    · have e : cm_pl x (n + 1) m true = (m, true) := by unfold cm_pl; rw [if_pos c]
      rw [e]
      refine Or.inr ⟨rfl, Nat.le_refl _, by show m ≤ 8; omega, fun j h1 h2 => absurd h2 (Nat.not_lt.mpr h1), ?_⟩
      have c1 : (cm_rs x m &&& 255) = 0 := (lg_cmp_eq _ _).mp c
      by_cases z : cm_rs x m = 0
      · refine Or.inl ⟨z, ?_⟩
        unfold cp_ci
        rw [if_pos ((lg_cmp_eq _ _).mpr (by rw [← er, z]; rfl))]
      · refine Or.inr ⟨z, ?_⟩
        unfold cp_ci
        rw [if_neg (fun q => z (by rw [er, (lg_cmp_eq _ _).mp q]; rfl)), if_pos]
        unfold cp_cd
        rw [← er, c1]
        decide
    · have z : ¬ lg_cmp (cp_sh x m) (Int64.ofNat 0) = 0 := fun q => c (by
        rw [er, (lg_cmp_eq _ _).mp q]
        decide)
      have ecd : (cm_rs x m &&& 255).toInt32 = cp_cd x m := by unfold cp_cd; rw [er]
      have e : cm_pl x (n + 1) m true = cm_pl x n (m + 1) (true && cb_wi (cp_cd x m) (nI 33) (nI 126)) := by
        conv => lhs; unfold cm_pl
        rw [if_neg c, ecd]
      cases w : cb_wi (cp_cd x m) (nI 33) (nI 126) with
      | false =>
        rw [w] at e
        refine Or.inl ⟨by rw [e]; exact cm_pl_false x n (m + 1), ?_⟩
        unfold cp_ci
        rw [if_neg z]
        by_cases d : cp_cd x m < nI 33
        · rw [if_pos d]
        · rw [if_neg d, if_neg (fun q => of_decide_eq_false w ⟨d, Int32.not_lt.mpr q⟩)]
      | true =>
        rw [w] at e
        have w2 := cb_wi_t w
        have e2 : cp_ci x (n + 1) m = cp_ci x n (m + 1) := by
          conv => lhs; unfold cp_ci
          rw [if_neg z, if_neg w2.1, if_pos w2.2]
        rw [e, e2]
        rcases cp_pl x n (m + 1) (by omega) with q | ⟨q1, q2, q3, q4, q5⟩
        · exact Or.inl q
        · refine Or.inr ⟨q1, by show m ≤ (cm_pl x n (m + 1) true).1; omega, q3, fun j h1 h2 => ?_, q5⟩
          by_cases jm : j = m
          · rw [jm]; exact w
          · exact q4 j (by omega) h2
theorem cp_chr : ∀ k, k < 127 → vp_nar .char ((nI k).toUInt32 % 65536).toInt32 = nI k := by decide +kernel
theorem cp_ch_cd {x : Int64} {j : Nat} (h : cb_wi (cp_cd x j) (nI 33) (nI 126) = true) : cp_ch x j = cp_cd x j := by
  obtain ⟨k, _, hk, e⟩ := cb_wi_nat (by omega) (by omega) h
  unfold cp_ch
  rw [e]
  exact cp_chr k (by omega)
theorem cc_Rp_put (x : Int64) : ∀ m n f pd, cc_Rp f n pd → n + m ≤ 60 → (∀ j, j < m → cb_wi (cp_cd x j) (nI 33) (nI 126) = true) → cc_Rp (cp_ap x m n f) (n + m) (cm_pa x m n pd)
  | 0, _, _, _, h, _, _ => h
  | m + 1, n, f, pd, h, hm, hj => by
    have q := hj m (Nat.lt_succ_self _)
    have ih := cc_Rp_put x m (n + 1) (upd f n (cp_ch x m)) (upd pd n (cp_cd x m)) ⟨by omega, fun k hk => by
      by_cases e : k = n
      · subst e
        rw [pk_us, pk_us, cp_ch_cd q]
        exact ⟨rfl, Int32.not_lt.mp (cb_wi_t q).1, (cb_wi_t q).2⟩
      · rw [pk_un e, pk_un e]
        exact h.2 k (by omega)⟩ (by omega) (fun j h2 => hj j (by omega))
    rw [show n + (m + 1) = n + 1 + m by omega]
    exact ih
