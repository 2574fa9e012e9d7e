/-! one step, both ways -/
theorem cs_sp_gb (S : cs_S) (L : Int32) : cs_sp (cs_gb S L) = cs_sp S := rfl
theorem cs_sp_give (S : cs_S) (a b c : Int32) : cs_sp (cs_give S a b c) = cs_sp S := by
  unfold cs_give; split <;> rfl
theorem cs_sp_learn (S : cs_S) (c : Int32) : cs_sp (cs_learn S c) = cs_sp S := by
  have h1 : cs_sp (cs_mr S) = cs_sp S := by
    unfold cs_mr
    split
    · rfl
    · unfold cs_fgt
      split <;> rfl
  unfold cs_learn
  split
  · exact h1
  · exact h1
theorem cs_sp_one (S : cs_S) : cs_sp (cs_one S) = cs_sp S := by
  unfold cs_one
  split
  · split
    · split
      · rfl
      · exact cs_sp_give _ _ _ _
    · exact cs_sp_give _ _ _ _
  · unfold cs_meet
    split
    · rfl
    · have h1 : cs_sp (cs_m2 S (cs_fu0 S)) = cs_sp S := cs_sp_learn _ _
      unfold cs_mf
      split
      · exact h1
      · split
        · exact h1
        · exact h1
section CR7
variable {y : Int32} {S : cs_S} {f : Nat → Int32}
theorem crp_s0 (h : crp y S f) (z : Int32) : crp z S (upd f 9 z) := by
  obtain ⟨hI, hF0, hFc, hFt, hFx⟩ := h
  have h9 := cr_k9 hI
  have g9 := cr_g9 hI
  refine ⟨hI, ⟨?_, ?_, ?_, ?_, ?_, ?_, ?_, ?_, ?_, ?_⟩, fun k hk => ?_, fun k hk => ?_, fun x hx9 hxk => ?_⟩
  · rw [pk_un (by omega)]; exact hF0.1
  · rw [pk_un (by omega)]; exact hF0.2.1
  · rw [pk_un (by omega)]; exact hF0.2.2.1
  · rw [pk_un (by omega)]; exact hF0.2.2.2.1
  · rw [pk_un (by omega)]; exact hF0.2.2.2.2.1
  · rw [pk_un (by omega)]; exact hF0.2.2.2.2.2.1
  · rw [pk_un (by omega)]; exact hF0.2.2.2.2.2.2.1
  · rw [pk_un (by omega)]; exact hF0.2.2.2.2.2.2.2.1
  · rw [pk_un (by omega)]; exact hF0.2.2.2.2.2.2.2.2.1
  · exact pk_us
  · rw [pk_un (by omega)]; exact hFc k hk
  · rw [pk_un (by omega), pk_un (by omega), pk_un (by omega), pk_un (by omega)]; exact hFt k hk
  · rw [pk_un (by omega), pk_un (by omega), pk_un (by omega)]; exact hFx x hx9 hxk
theorem crp_sd (h : crp y S f) {v : Int32} (hv : v = nI 0 ∨ v = nI 1 ∨ v = nI 2) : crp y (cs_wsd S v) (upd f 5 v) := by
  obtain ⟨⟨hIs, hIc, hIt, hIr⟩, hF0, hFc, hFt, hFx⟩ := h
  refine ⟨⟨⟨hIs.1, hIs.2.1, hIs.2.2.1, hIs.2.2.2.1, hv⟩, hIc, hIt, hIr⟩, ⟨?_, ?_, ?_, ?_, ?_, ?_, ?_, ?_, ?_, ?_⟩, fun k hk => ?_, fun k hk => ?_, fun x hx9 hxk => ?_⟩
  · rw [pk_un (by omega)]; exact hF0.1
  · rw [pk_un (by omega)]; exact hF0.2.1
  · rw [pk_un (by omega)]; exact hF0.2.2.1
  · rw [pk_un (by omega)]; exact hF0.2.2.2.1
  · rw [pk_un (by omega)]; exact hF0.2.2.2.2.1
  · exact pk_us
  · rw [pk_un (by omega)]; exact hF0.2.2.2.2.2.2.1
  · rw [pk_un (by omega)]; exact hF0.2.2.2.2.2.2.2.1
  · rw [pk_un (by omega)]; exact hF0.2.2.2.2.2.2.2.2.1
  · rw [pk_un (by omega)]; exact hF0.2.2.2.2.2.2.2.2.2
  · rw [pk_un (by omega)]; exact hFc k hk
  · rw [pk_un (by omega), pk_un (by omega), pk_un (by omega), pk_un (by omega)]; exact hFt k hk
  · rw [pk_un (by omega), pk_un (by omega), pk_un (by omega)]; exact hFx x hx9 hxk
theorem crp_sp (h : crp y S f) : cr (cs_wsp S y) f := h
/-- a set of one sign -/
theorem cb_sio_one {o : Int32} {i : Nat} (hi : cr_sg 9 i) (ho : ∀ j, j < 32 → (bt o j = true ↔ j = i)) : ∀ n t, t + n = 10 → 1 ≤ t → t ≤ i % 10 → cb_sio o (nI 1) n t (nI 0) = nI i
  | 0, t, h1, h2, h3 => by omega
  | n + 1, t, h1, h2, h3 => by
    have q := cr_sg9 (Nat.le_refl 9) hi
    have hsg : ∀ j, j < 32 → bt o j = true → cr_sg 9 j := fun j hj hb => by rw [(ho j hj).mp hb]; exact hi
    unfold cb_sio
    have hb : bt (o ||| cb_op o) t = true ↔ t = i % 10 := by
      rw [b_or, Bool.or_eq_true, ho t (by omega), cb_op_bt hsg (by omega), ho (cr_op t) (by unfold cr_op; split <;> omega)]
      unfold cr_op
      rw [if_pos (by omega)]
      rcases hi with e | e
      · constructor
        · rintro (z | z) <;> omega
        · intro z; left; omega
      · constructor
        · rintro (z | z) <;> omega
        · intro z; right; exact ⟨Or.inl ⟨h2, by omega⟩, by omega⟩
    by_cases c : t = i % 10
    · rw [if_pos (hb.mpr c), if_pos (show nI 0 + nI 1 = nI 1 by decide)]
      cases b : bt o t with
      | true =>
        have := (ho t (by omega)).mp b
        rw [if_pos rfl, this]
      | false =>
        rw [if_neg (by decide)]
        have : t ≠ i := fun z => by rw [(ho t (by omega)).mpr z] at b; cases b
        rw [show t + 10 = i by omega]
    · rw [if_neg (fun z => c (hb.mp z))]
      exact cb_sio_one hi ho n (t + 1) (by omega) (by omega) (by omega)
theorem cm_fs_one (f : Nat → Int32) (c : Int32) {i : Nat} (ho : ∀ j, j < 20 → 1 ≤ j → ((bt c j = true ∧ f (19 + j % 10) = -nI 6) ↔ j = i)) : ∀ n s a, s + n = 20 → 1 ≤ s → (i < s → a = nI i) → i < 20 → cm_fs f c n s a = nI i
  | 0, s, a, h1, h2, h3, h4 => h3 (by omega)
  | n + 1, s, a, h1, h2, h3, h4 => by
    unfold cm_fs
    have q := ho s (by omega) h2
    by_cases c2 : s = i
    · rw [if_pos (q.mpr c2)]
      exact cm_fs_one f c ho n (s + 1) _ (by omega) (by omega) (fun _ => by rw [c2]) h4
    · rw [if_neg (fun z => c2 (q.mp z))]
      exact cm_fs_one f c ho n (s + 1) _ (by omega) (by omega) (fun z => h3 (by omega)) h4
/-- the only open sign of a clause -/
theorem cr_one_open (h : crp y S f) {k : Nat} (hk : k < cs_t S + cs_n S) (hp : cr_P S 1 k = true) : ∃ i, cr_sg (cs_k S) i ∧ bt (cs_cl S k) i = true ∧ bt (cs_va S) i = false ∧ bt (cs_va S) (cr_op i) = false ∧ (∀ j, j < 32 → (bt (cs_op S (cs_cl S k)) j = true ↔ j = i)) ∧ ∀ j, j < 32 → bt (cs_cl S k) j = true → j = i ∨ ∃ m, m < cs_g S ∧ cs_s S m = cr_op j := by
  have h9 := cr_k9 h.1
  have hc := h.1.2.1 k hk
  unfold cr_P at hp
  rw [Bool.and_eq_true, Bool.not_eq_true', decide_eq_true_eq] at hp
  obtain ⟨i, hi, hb⟩ := fb_ct_pos.mp (show 0 < fb_ct (bt (cs_op S (cs_cl S k))) 20 by omega)
  have h2 := fb_two.mp (show fb_ct (bt (cs_op S (cs_cl S k))) 20 ≤ 1 by omega)
  obtain ⟨b1, b2, b3⟩ := (cr_op_bt h.1 hc (by omega)).mp hb
  have hs := hc.1 i (by omega) b1
  have huni : ∀ j, j < 32 → (bt (cs_op S (cs_cl S k)) j = true ↔ j = i) := by
    intro j hj
    constructor
    · intro q
      have hj2 := cr_sg9 h9 (hc.1 j hj ((cr_op_bt h.1 hc hj).mp q).1)
      rcases Nat.lt_trichotomy i j with z | z | z
      · exact absurd ⟨hb, q⟩ (h2 i j z (by omega))
      · exact z.symm
      · exact absurd ⟨q, hb⟩ (h2 j i z hi)
    · rintro rfl; exact hb
  refine ⟨i, hs, b1, b2, b3, huni, fun j hj q => ?_⟩
  by_cases e : j = i
  · exact Or.inl e
  · right
    have hsj := hc.1 j hj q
    have v1 : bt (cs_va S) j = false := by
      cases b : bt (cs_va S) j with
      | false => rfl
      | true =>
        have : cs_tr S (cs_cl S k) = true := decide_eq_true (cb_meet.mpr ⟨j, hj, q, b⟩)
        rw [hp.1] at this; cases this
    have v2 : bt (cs_va S) (cr_op j) = true := by
      cases b : bt (cs_va S) (cr_op j) with
      | true => rfl
      | false => exact absurd ((huni j hj).mp ((cr_op_bt h.1 hc hj).mpr ⟨q, v1, b⟩)) e
    have := cr_sg9 h9 (cr_sg_op h9 hsj)
    exact (h.1.2.2.1.2.2 (cr_op j) (by omega)).mp v2
theorem cs_ca_nI {k : Nat} (hk : k < 60) : cs_ca S (nI k) = cs_cl S k := by
  unfold cs_ca
  rw [if_neg (nI_pos (by omega)), if_neg (nI_ge hk (by omega)), nI_clamp (by omega)]
theorem cr_t60 (h : crp y S f) {k : Nat} (hk : k < cs_t S + cs_n S) : k < 60 := by
  have hB := h.1.1.1
  have := hB.2.1.2; have := hB.2.2.1.2; omega
theorem cr_n60 (h : crp y S f) : cs_t S + cs_n S ≤ 60 := by
  have hB := h.1.1.1
  have := hB.2.1.2; have := hB.2.2.1.2; omega
theorem cr_th (h : crp y S f) : f 0 = nI (cs_k S) := by rw [h.2.1.1]; exact h.1.1.1.2.2.2.1
end CR7
