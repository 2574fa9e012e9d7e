/-! what a call answers, and that the relation holds again: counts, the trail, places, steps, ways back, undo, saving -/
theorem cb_wi_nat {x : Int32} {a b : Nat} (ha : a < 2 ^ 31) (hb : b < 2 ^ 31) (h : cb_wi x (nI a) (nI b) = true) : ∃ k, a ≤ k ∧ k ≤ b ∧ x = nI k := by
  obtain ⟨h1, h2⟩ := cb_wi_t h
  have h0 : ¬ x < 0 := fun q => h1 (by
    rw [Int32.lt_iff_toInt_lt] at q ⊢
    rw [nI_toInt ha]
    have e : (0 : Int32).toInt = 0 := rfl
    omega)
  obtain ⟨k, hk, rfl⟩ := nI_of h0
  have h3 := (nI_leI hk hb).mp h2
  exact ⟨k, Nat.not_lt.mp (fun q => h1 (nI_lt q ha)), h3, rfl⟩
theorem cb_nI_wi {k a b : Nat} (ha : a ≤ k) (hb : k ≤ b) (h : b < 2 ^ 31) : cb_wi (nI k) (nI a) (nI b) = true := decide_eq_true ⟨nI_nlt ha (by omega), nI_nlt hb h⟩
theorem cb_sub1 : ∀ t, t ≤ 100 → (nI t - nI 1).toInt = (t : Int) - 1 := by decide +kernel
theorem cb_bewi {x : Int32} {t : Nat} (h : t ≤ 100) : cb_be x (nI t) = cb_wi x (nI 0) (nI t - nI 1) := by
  refine decide_eq_decide.mpr ?_
  have e := cb_sub1 t h
  have e2 := nI_toInt (n := t) (by omega)
  have e3 : (nI 0) = (0 : Int32) := rfl
  rw [e3, Int32.lt_iff_toInt_lt, Int32.lt_iff_toInt_lt, Int32.lt_iff_toInt_lt, e, e2]
  omega
theorem cb_be_nat {x : Int32} {t : Nat} (ht : t ≤ 100) (h : cb_be x (nI t) = true) : ∃ k, k < t ∧ x = nI k := by
  obtain ⟨h1, h2⟩ := of_decide_eq_true h
  obtain ⟨k, hk, rfl⟩ := nI_of h1
  exact ⟨k, (nI_ltI hk (by omega)).mp h2, rfl⟩
theorem cb_mod10 : ∀ s, s < 20 → cb_th (nI s) = nI (s % 10) := by decide +kernel
section SIM
variable {l : Launch} {u : Nat} {N T : cs_S} {H G : Nat → Option Nat} {f : Nat → Int32} {n : Nat} {L : List cs_S} {M : cm_S}
/-- one call on both sides: the same answer, and the relation again -/
def cc_G (l : Launch) (mc mm : cw_I) (av : List Value) (u : Nat) (N T : cs_S) (H G : Nat → Option Nat) (f : Nat → Int32) (n : Nat) (L : List cs_S) (M : cm_S) : Prop := ∃ (r : Int32) (u' : Nat) (N' T' : cs_S) (H' G' : Nat → Option Nat) (f' : Nat → Int32) (n' : Nat) (L' : List cs_S) (M' : cm_S), cw_M l mc 5 101 (.ref 0 :: av) (cc_h (nI u) N T H G f (nI n) L) (some (.int r)) (cc_h (nI u') N' T' H' G' f' (nI n') L') ∧ cw_M l mm 0 0 (.ref 0 :: av) (cm_h M) (some (.int r)) (cm_h M') ∧ cc_R u' N' H' G' f' n' L' M' ∧ L.length ≤ L'.length
theorem cc_same {mc mm : cw_I} {av : List Value} {r : Int32} (hR : cc_R u N H G f n L M) (hc : cw_M l mc 5 101 (.ref 0 :: av) (cc_h (nI u) N T H G f (nI n) L) (some (.int r)) (cc_h (nI u) N T H G f (nI n) L)) (hm : cw_M l mm 0 0 (.ref 0 :: av) (cm_h M) (some (.int r)) (cm_h M)) : cc_G l mc mm av u N T H G f n L M :=
  ⟨r, u, N, T, H, G, f, n, L, M, hc, hm, hR, Nat.le_refl _⟩
theorem cc_Lr_len (u : Nat) (H : Nat → Option Nat) (L : List cs_S) (N : cs_S) : L.length ≤ (cc_Lr u H L N).length := cc_rL_len _ _ _ _
theorem cR_u (hR : cc_R u N H G f n L M) : M.2.2.2.1 = nI u := hR.2.2.1
theorem cR_6 (hR : cc_R u N H G f n L M) : u ≤ 6 := hR.1.1
theorem cR_B (hR : cc_R u N H G f n L M) : cs_Bd N := hR.2.1.1.1.1
theorem cR_3 (hR : cc_R u N H G f n L M) : cm_st M 3 = nI (cs_t N) := hR.2.1.2.1.2.2.2.1.trans (cR_B hR).2.1.1
theorem cR_4 (hR : cc_R u N H G f n L M) : cm_st M 4 = nI (cs_n N) := hR.2.1.2.1.2.2.2.2.1.trans (cR_B hR).2.2.1.1
theorem cR_7 (hR : cc_R u N H G f n L M) : cm_st M 7 = nI (cs_g N) := hR.2.1.2.1.2.2.2.2.2.2.2.1.trans (cR_B hR).1.1
theorem cR_0 (hR : cc_R u N H G f n L M) : cm_st M 0 = nI (cs_k N) := hR.2.1.2.1.1.trans (cR_B hR).2.2.2.1
theorem cR_th (hR : cc_R u N H G f n L M) : cs_th N = nI (cs_k N) := (cR_B hR).2.2.2.1
theorem cR_k9 (hR : cc_R u N H G f n L M) : cs_k N ≤ 9 := (cR_B hR).2.2.2.2
theorem cR_t20 (hR : cc_R u N H G f n L M) : cs_t N ≤ 20 := (cR_B hR).2.1.2
theorem cR_g9 (hR : cc_R u N H G f n L M) : cs_g N ≤ 9 := (cR_B hR).1.2
theorem cR_pn (hR : cc_R u N H G f n L M) : M.2.2.2.2.2.2.2.1 = nI n := hR.2.2.2.2.2.2
theorem cR_n60 (hR : cc_R u N H G f n L M) : n ≤ 60 := hR.2.2.2.2.2.1.1
/-- a thing's place -/
theorem cr_pof {S : cs_S} (h : cr_I S) {x : Nat} (hx : x < 10) : ∀ n k, k + n = cs_g S → (cs_pof S (nI x) n k = -nI 6 ∧ ∀ j, k ≤ j → j < cs_g S → cs_s S j % 10 ≠ x) ∨ ∃ p, k ≤ p ∧ p < cs_g S ∧ cs_s S p % 10 = x ∧ cs_pof S (nI x) n k = nI p
  | 0, k, e => Or.inl ⟨rfl, fun j h1 h2 => absurd h2 (by omega)⟩
  | n + 1, k, e => by
    have hs := h.2.2.1.1 k (by omega)
    have s9 := cr_sg9 (cr_k9 h) hs.2.1
    have et : (if cs_sg S k < nI 10 then cs_sg S k else cs_sg S k - nI 10) = nI (cs_s S k % 10) := by rw [hs.1]; exact cb_mod10 _ (by omega)
    have ep : cs_pof S (nI x) (n + 1) k = if nI (cs_s S k % 10) = nI x then nI k else cs_pof S (nI x) n (k + 1) := by
      conv => lhs; unfold cs_pof
      rw [et]
    rw [ep]
    by_cases c : cs_s S k % 10 = x
    · right
      exact ⟨k, Nat.le_refl _, by omega, c, by rw [if_pos (by rw [c])]⟩
    · rw [if_neg (fun q => c ((nI_eq (by omega) (by omega)).mp q))]
      rcases cr_pof h hx n (k + 1) (by omega) with ⟨a, b⟩ | ⟨p, a, b, c2, d⟩
      · left
        refine ⟨a, fun j h1 h2 => ?_⟩
        by_cases q : j = k
        · rw [q]; exact c
        · exact b j (by omega) h2
      · exact Or.inr ⟨p, by omega, b, c2, d⟩
theorem cm_pf_no {f : Nat → Int32} {x : Int32} : ∀ n k a, (∀ j, k ≤ j → j < k + n → f (10 + j) ≠ x) → cm_pf f x n k a = a
  | 0, _, _, _ => rfl
  | n + 1, k, a, h => by
    unfold cm_pf
    rw [if_neg (h k (Nat.le_refl _) (by omega))]
    exact cm_pf_no n (k + 1) a (fun j h1 h2 => h j (by omega) (by omega))
theorem cm_pf_at {f : Nat → Int32} {x : Int32} {p : Nat} (hp : f (10 + p) = x) : ∀ n k a, k ≤ p → p < k + n → (∀ j, k ≤ j → j < k + n → f (10 + j) = x → j = p) → cm_pf f x n k a = nI p
  | 0, _, _, h1, h2, _ => absurd h2 (by omega)
  | n + 1, k, a, h1, h2, hu => by
    unfold cm_pf
    by_cases c : k = p
    · subst c
      rw [if_pos hp]
      exact cm_pf_no n (k + 1) _ (fun j h3 h4 q => absurd (hu j (by omega) (by omega) q) (by omega))
    · exact cm_pf_at hp n (k + 1) _ (by omega) (by omega) (fun j h3 h4 q => hu j (by omega) (by omega) q)
end SIM
