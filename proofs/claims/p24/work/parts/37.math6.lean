/-! the level to go to, room for a clause, the new clause -/
section CR6
variable {y : Int32} {S : cs_S} {f : Nat → Int32}
theorem cr_lbp (h : crp y S f) {c : Int32} (hc : cr_fl S c) : ∀ n k m, k + n = cs_g S → m ≤ cs_pv S (cs_g S) → cs_lbp S c n k (nI m) = cm_lb f c n k (nI m) ∧ ∃ q, q ≤ cs_pv S (cs_g S) ∧ cs_lbp S c n k (nI m) = nI q
  | 0, k, m, _, hm => ⟨rfl, m, hm, rfl⟩
  | n + 1, k, m, hk, hm => by
    have h9 := cr_k9 h.1
    have g9 := cr_g9 h.1
    have hkg : k < cs_g S := by omega
    obtain ⟨es, hs, el, hl⟩ := h.1.2.2.1.1 k hkg
    have hs9 := cr_sg9 h9 hs
    have ho9 := cr_sg9 h9 (cr_sg_op h9 hs)
    have hpl := cr_pl h.1
    have hpv := cr_pv_le h.1
    have hlv : cs_l S k ≤ cs_pv S (cs_g S) := by
      unfold cs_pv; rw [if_neg (by omega)]; exact cr_mono h.1 _ (by omega) (by omega)
    unfold cs_lbp cm_lb
    rw [es, cb_opp_nI (by omega), cb_hs_bt (by omega), cm_x_s h hkg, (h.2.2.2.1 k hkg).2.2.1, h.2.1.2.2.2.2.2.2.1]
    have ih1 := cr_lbp h hc n (k + 1) m (by omega) hm
    have ih2 := cr_lbp h hc n (k + 1) (cs_l S k) (by omega) hlv
    rw [← el] at ih2
    have so := cr_so h hc hkg
    cases b : bt c (cr_op (cs_s S k)) with
    | false =>
      rw [if_neg (by decide)]
      have e : (if cs_pl S (cs_g S) ≤ cs_lv S k then nI m else if cs_lv S k ≤ nI m then nI m else if cm_so c (cs_s S k % 10) = -nI 6 then nI m else cs_lv S k) = nI m := by
        rw [if_pos (so.mpr b), ite_self, ite_self]
      rw [e]; exact ih1
    | true =>
      rw [if_pos rfl]
      have n6 : ¬ cm_so c (cs_s S k % 10) = -nI 6 := fun q => by rw [so.mp q] at b; cases b
      rw [if_neg n6]
      by_cases d : cs_pl S (cs_g S) ≤ cs_lv S k
      · rw [if_pos d, if_pos d]; exact ih1
      · rw [if_neg d, if_neg d]
        by_cases e : nI m < cs_lv S k
        · rw [if_pos e, if_neg (Int32.not_le.mpr e)]; exact ih2
        · rw [if_neg e, if_pos (Int32.not_lt.mp e)]; exact ih1
/-- reasons, both ways -/
theorem cs_isr_iff (S : cs_S) (x : Int32) : ∀ n k, cs_isr S x n k = true ↔ ∃ j, k ≤ j ∧ j < k + n ∧ cs_rs S j = x
  | 0, k => by
    unfold cs_isr
    exact ⟨fun q => (by cases q), fun ⟨j, h1, h2, _⟩ => (by omega)⟩
  | n + 1, k => by
    have ih := cs_isr_iff S x n (k + 1)
    unfold cs_isr
    by_cases c : cs_rs S k = x
    · rw [if_pos c]
      exact ⟨fun _ => ⟨k, by omega, by omega, c⟩, fun _ => rfl⟩
    · rw [if_neg c, ih]
      constructor
      · rintro ⟨j, h1, h2, h3⟩; exact ⟨j, by omega, by omega, h3⟩
      · rintro ⟨j, h1, h2, h3⟩
        by_cases e : j = k
        · subst e; exact absurd h3 c
        · exact ⟨j, by omega, by omega, h3⟩
theorem cm_ir_iff (f : Nat → Int32) (c : Int32) : ∀ n x a, cm_ir f c n x a = true ↔ a = true ∨ ∃ j, x ≤ j ∧ j < x + n ∧ f (39 + j) = c
  | 0, x, a => by
    unfold cm_ir
    exact ⟨Or.inl, fun q => q.elim id (fun ⟨j, h1, h2, _⟩ => by omega)⟩
  | n + 1, x, a => by
    unfold cm_ir
    rw [cm_ir_iff f c n (x + 1), Bool.or_eq_true, decide_eq_true_eq]
    constructor
    · rintro ((q | q) | ⟨j, h1, h2, h3⟩)
      · exact Or.inl q
      · exact Or.inr ⟨x, by omega, by omega, q⟩
      · exact Or.inr ⟨j, by omega, by omega, h3⟩
    · rintro (q | ⟨j, h1, h2, h3⟩)
      · exact Or.inl (Or.inl q)
      · by_cases e : j = x
        · subst e; exact Or.inl (Or.inr h3)
        · exact Or.inr ⟨j, by omega, by omega, h3⟩
theorem cr_isr (h : crp y S f) {k : Nat} (hk : k < 2 ^ 31) : cm_ir f (nI k) 9 1 false = cs_isr S (nI k) (cs_g S) 0 := by
  have h9 := cr_k9 h.1
  have e : cm_ir f (nI k) 9 1 false = true ↔ cs_isr S (nI k) (cs_g S) 0 = true := by
    rw [cm_ir_iff, cs_isr_iff]
    constructor
    · rintro (q | ⟨j, h1, h2, h3⟩)
      · cases q
      · by_cases c : ∃ m, m < cs_g S ∧ cs_s S m % 10 = j
        · obtain ⟨m, hm, rfl⟩ := c
          exact ⟨m, by omega, by omega, by rw [← (h.2.2.2.1 m hm).2.2.2]; exact h3⟩
        · have := (h.2.2.2.2 j (by omega) (fun m hm e => c ⟨m, hm, e⟩)).2.2
          rw [h3] at this
          exact absurd this (cm_n6 hk)
    · rintro ⟨m, h1, h2, h3⟩
      have hs9 := cr_sg9 h9 (h.1.2.2.1.1 m (by omega)).2.1
      exact Or.inr ⟨cs_s S m % 10, by omega, by omega, by rw [(h.2.2.2.1 m (by omega)).2.2.2]; exact h3⟩
  cases a : cm_ir f (nI k) 9 1 false <;> cases b : cs_isr S (nI k) (cs_g S) 0 <;> simp_all
theorem cr_fgk (h : crp y S f) (t : Nat) : ∀ m k, k + m < 2 ^ 31 → t ≤ k → (cs_fgk S m k = none ∧ (∀ j, k ≤ j → j < k + m → cs_isr S (nI j) (cs_g S) 0 = true) ∧ ∀ a, cm_mk f t (k - t + m) a = cm_mk f t (k - t) a) ∨ ∃ j, k ≤ j ∧ j < k + m ∧ cs_fgk S m k = some j ∧ cs_isr S (nI j) (cs_g S) 0 = false ∧ ∀ a, cm_mk f t (k - t + m) a = cm_mk f t (k - t) (nI j)
  | 0, k, _, _ => Or.inl ⟨rfl, fun j h1 h2 => by omega, fun _ => rfl⟩
  | m + 1, k, hk, ht => by
    have ih := cr_fgk h t m (k + 1) (by omega) (by omega)
    rw [show k + 1 - t + m = k - t + (m + 1) by omega, show k + 1 - t = (k - t) + 1 by omega] at ih
    have e : ∀ a, cm_mk f t (k - t + 1) a = cm_mk f t (k - t) (if cs_isr S (nI k) (cs_g S) 0 then a else nI k) := fun a => by
      show cm_mk f t (k - t) (if cm_ir f (nI (t + (k - t))) 9 1 false then a else nI (t + (k - t))) = _
      rw [show t + (k - t) = k by omega, cr_isr h (by omega)]
    unfold cs_fgk
    cases b : cs_isr S (nI k) (cs_g S) 0 with
    | false =>
      rw [if_neg (by decide)]
      right
      refine ⟨k, by omega, by omega, rfl, b, fun a => ?_⟩
      rcases ih with ⟨-, -, h2⟩ | ⟨j, -, -, -, -, h2⟩
      · rw [h2, e, b]; rfl
      · rw [h2, e, b]; rfl
    | true =>
      rw [if_pos rfl]
      rcases ih with ⟨h1, h3, h2⟩ | ⟨j, h4, h5, h1, h3, h2⟩
      · left
        refine ⟨h1, fun j h4 h5 => ?_, fun a => by rw [h2, e, b]; rfl⟩
        by_cases z : j = k
        · subst z; exact b
        · exact h3 j (by omega) (by omega)
      · right
        exact ⟨j, by omega, by omega, h1, h3, fun a => by rw [h2, e, b]; rfl⟩
/-- with 40 learned clauses one is without use -/
theorem cr_room (h : crp y S f) (hn : cs_n S = 40) : ∃ j, cs_t S ≤ j ∧ j < cs_t S + 40 ∧ cs_fgt S = cs_drop S j ∧ cm_mk f (cs_t S) 40 (-nI 6) = nI j ∧ ∀ k, k < cs_g S → cs_rs S k ≠ nI j := by
  have hB := h.1.1.1
  have h20 := hB.2.1.2
  rcases cr_fgk h (cs_t S) 40 (cs_t S) (by omega) (Nat.le_refl _) with ⟨-, h1, -⟩ | ⟨j, h1, h2, h3, h4, h5⟩
  · exfalso
    obtain ⟨k, hk, hk2⟩ := pg_free (fun j => (cs_rs S j).toNatClampNeg - cs_t S) 9
    obtain ⟨j, h2, h3, h4⟩ := (cs_isr_iff S (nI (cs_t S + k)) (cs_g S) 0).mp (h1 (cs_t S + k) (by omega) (by omega))
    have := hB.1.2
    refine hk2 j (by omega) ?_
    show (cs_rs S j).toNatClampNeg - cs_t S = k
    rw [h4, nI_clamp (by omega)]; omega
  · refine ⟨j, h1, h2, ?_, ?_, fun k hk e => ?_⟩
    · unfold cs_fgt
      rw [hn, h3]
    · have := h5 (-nI 6)
      rw [Nat.sub_self, Nat.zero_add] at this
      exact this
    · have : cs_isr S (nI j) (cs_g S) 0 = true := (cs_isr_iff S (nI j) (cs_g S) 0).mpr ⟨k, by omega, by omega, e⟩
      rw [h4] at this; cases this
theorem cr_drop (h : crp y S f) (hn : cs_n S = 40) {j : Nat} (h1 : cs_t S ≤ j) (h2 : j < cs_t S + 40) (hr : ∀ k, k < cs_g S → cs_rs S k ≠ nI j) : crp y (cs_drop S j) (cm_dr f (cs_t S) 40 j) ∧ cs_n (cs_drop S j) = 39 := by
  have h9 := cr_k9 h.1
  have g9 := cr_g9 h.1
  have hB := h.1.1.1
  have h20 := hB.2.1.2
  obtain ⟨hB2, hn2⟩ := cs_Bd_drop hB (show 1 ≤ cs_n S by omega) j
  have hn3 : cs_n (cs_drop S j) = 39 := by omega
  refine ⟨?_, hn3⟩
  obtain ⟨⟨hIs, hIc, hIt, hIr⟩, hF0, hFc, hFt, hFx⟩ := h
  have e0 : cs_drop S j = cs_wrs (cs_wle (cs_wcl S (cs_rm (cs_cl S) j 59)) (cs_le S - nI 1)) (cs_lr S (nI j) (cs_g S)) := rfl
  rw [e0] at hB2 hn2 hn3 ⊢
  obtain ⟨S', hS'⟩ : ∃ S', S' = cs_wrs (cs_wle (cs_wcl S (cs_rm (cs_cl S) j 59)) (cs_le S - nI 1)) (cs_lr S (nI j) (cs_g S)) := ⟨_, rfl⟩
  rw [← hS'] at hB2 hn2 hn3 ⊢
  have fg : cs_g S' = cs_g S := by rw [hS']; rfl
  have ft : cs_t S' = cs_t S := by rw [hS']; rfl
  have fk : cs_k S' = cs_k S := by rw [hS']; rfl
  have fcl : cs_cl S' = cs_rm (cs_cl S) j 59 := by rw [hS']
  have frs : cs_rs S' = cs_lr S (nI j) (cs_g S) := by rw [hS']
  have s1 : cs_s S' = cs_s S := by rw [hS']; rfl
  have l1 : cs_l S' = cs_l S := by rw [hS']; rfl
  have p1 : cs_pv S' = cs_pv S := by rw [hS']; rfl
  -- clauses behind the gap
  have cl1 : ∀ k, k < cs_t S + 39 → cs_rm (cs_cl S) j 59 k = if j ≤ k then cs_cl S (k + 1) else cs_cl S k := fun k hk => by
    unfold cs_rm
    by_cases c : j ≤ k
    · rw [if_pos ⟨c, by omega⟩, if_pos c]
    · rw [if_neg (fun q => c q.1), if_neg c]
  have dr : ∀ i, (i < 40 ∨ 49 ≤ i) → cm_dr f (cs_t S) 40 j i = upd (upd (cm_sf f j (cs_t S + 40 - 1)) (49 + (cs_t S + 40) - 1) (nI 0)) 4 (nI (40 - 1)) i := fun i hi => by
    unfold cm_dr cm_lr
    rw [if_neg (by omega)]
  have dlo : ∀ i, i < 40 → i ≠ 4 → cm_dr f (cs_t S) 40 j i = f i := fun i hi h4 => by
    rw [dr i (Or.inl hi), pk_un h4, pk_un (by omega)]
    unfold cm_sf
    rw [if_neg (by omega)]
  have drs : ∀ x, 1 ≤ x → x ≤ 9 → cm_dr f (cs_t S) 40 j (39 + x) = if nI j < f (39 + x) then f (39 + x) - nI 1 else f (39 + x) := fun x hx1 hx => by
    have e : upd (upd (cm_sf f j (cs_t S + 40 - 1)) (49 + (cs_t S + 40) - 1) (nI 0)) 4 (nI (40 - 1)) (39 + x) = f (39 + x) := by
      rw [pk_un (by omega), pk_un (by omega)]
      unfold cm_sf
      rw [if_neg (by omega)]
    unfold cm_dr cm_lr
    rw [e]
    by_cases c : nI j < f (39 + x)
    · rw [if_pos c, if_pos ⟨by omega, by omega, c⟩]
    · rw [if_neg c, if_neg (fun q => c q.2.2)]
  have dcl : ∀ k, k < cs_t S + 39 → cm_dr f (cs_t S) 40 j (49 + k) = if j ≤ k then f (49 + (k + 1)) else f (49 + k) := fun k hk => by
    rw [dr _ (Or.inr (by omega)), pk_un (by omega), pk_un (by omega)]
    unfold cm_sf
    by_cases c : j ≤ k
    · rw [if_pos ⟨by omega, by omega⟩, if_pos c]; rfl
    · rw [if_neg (by omega), if_neg c]
  have dt : ∀ x, x ≤ 9 → cm_dr f (cs_t S) 40 j (10 + x) = f (10 + x) := fun x hx => dlo _ (by omega) (by omega)
  -- a reason's number
  have rn : ∀ k, k < cs_g S → ∀ c, c < cs_t S + cs_n S → cs_rs S k = nI c → ∃ c', c' < cs_t S + 39 ∧ (if nI j < cs_rs S k then cs_rs S k - nI 1 else cs_rs S k) = nI c' ∧ cs_rm (cs_cl S) j 59 c' = cs_cl S c := by
    intro k hk c hc e
    have hne : c ≠ j := fun z => hr k hk (by rw [e, z])
    rw [e]
    by_cases q : nI j < nI c
    · have q2 := (nI_ltI (by omega) (by omega)).mp q
      refine ⟨c - 1, by omega, by rw [if_pos q, pk_sub (by omega)], ?_⟩
      rw [cl1 _ (by omega), if_pos (by omega), show c - 1 + 1 = c by omega]
    · have q2 : ¬ j < c := fun z => q (nI_lt z (by omega))
      refine ⟨c, by omega, by rw [if_neg q], ?_⟩
      rw [cl1 _ (by omega), if_neg (by omega)]
  have lrk : ∀ k, k < cs_g S → cs_lr S (nI j) (cs_g S) k = if nI j < cs_rs S k then cs_rs S k - nI 1 else cs_rs S k := fun k hk => by
    unfold cs_lr
    by_cases c : nI j < cs_rs S k
    · rw [if_pos c, if_pos ⟨hk, c⟩]
    · rw [if_neg c, if_neg (fun q => c q.2)]
  have n6j : ¬ nI j < -nI 6 := fun q => by
    have a : -nI 6 < nI 0 := by decide
    have b := Int32.lt_trans q a
    exact absurd b (nI_nlt (by omega) (by omega))
  refine ⟨⟨⟨hB2, by rw [fk]; exact hIs.2.1, by rw [hS']; exact hIs.2.2.1, by rw [hS']; exact hIs.2.2.2.1, by rw [hS']; exact hIs.2.2.2.2⟩, fun k hk => ?_, by rw [hS']; exact hIt, fun k hk => ?_⟩, ⟨?_, ?_, ?_, ?_, ?_, ?_, ?_, ?_, ?_, ?_⟩, fun k hk => ?_, fun k hk => ?_, fun x hx9 hxk => ?_⟩
  · rw [ft, hn3] at hk
    rw [fk, fcl, cl1 k hk]
    split
    · exact hIc _ (by omega)
    · exact hIc _ (by omega)
  · rw [fg] at hk
    unfold cr_r
    rw [l1, p1, frs, fcl, s1, ft, hn3, lrk k hk]
    rcases hIr k hk with ⟨a, c, hc, b1, b2, b3⟩ | ⟨a, b⟩
    · left
      obtain ⟨c', q1, q2, q3⟩ := rn k hk c hc b1
      exact ⟨a, c', q1, q2, by rw [q3]; exact b2, fun i hi hb => b3 i hi (by rw [← q3]; exact hb)⟩
    · right
      exact ⟨a, by rw [b, if_neg n6j]⟩
  · rw [dlo 0 (by omega) (by omega), hS']; exact hF0.1
  · rw [dlo 1 (by omega) (by omega), hS']; exact hF0.2.1
  · rw [dlo 2 (by omega) (by omega), hS']; exact hF0.2.2.1
  · rw [dlo 3 (by omega) (by omega), hS']; exact hF0.2.2.2.1
  · rw [dr 4 (Or.inl (by omega)), pk_us, hB2.2.2.1.1, hn3]
  · rw [dlo 5 (by omega) (by omega), hS']; exact hF0.2.2.2.2.2.1
  · rw [dlo 6 (by omega) (by omega), hS']; exact hF0.2.2.2.2.2.2.1
  · rw [dlo 7 (by omega) (by omega), hS']; exact hF0.2.2.2.2.2.2.2.1
  · rw [dlo 8 (by omega) (by omega), hS']; exact hF0.2.2.2.2.2.2.2.2.1
  · rw [dlo 9 (by omega) (by omega)]; exact hF0.2.2.2.2.2.2.2.2.2
  · rw [ft, hn3] at hk
    rw [dcl k hk, fcl, cl1 k hk]
    split
    · exact hFc _ (by omega)
    · exact hFc _ (by omega)
  · rw [fg] at hk
    have hs9 := cr_sg9 h9 (hIt.1 k hk).2.1
    obtain ⟨b1, b2, b3, b4⟩ := hFt k hk
    rw [s1, frs, lrk k hk, drs _ hs9.2.2.2.1 (by omega), b4]
    refine ⟨?_, ?_, ?_, rfl⟩
    · rw [dt k (by omega)]; exact b1
    · rw [dlo _ (by omega) (by omega)]; exact b2
    · rw [dlo _ (by omega) (by omega), hS']; exact b3
  · rw [fg, s1] at hxk
    obtain ⟨b1, b2, b3⟩ := hFx x hx9 hxk
    refine ⟨?_, ?_, ?_⟩
    · rw [dlo _ (by omega) (by omega)]; exact b1
    · rw [dlo _ (by omega) (by omega)]; exact b2
    · by_cases c : x = 0
      · subst c; rw [dlo _ (by omega) (by omega)]; exact b3
      · rw [drs x (by omega) hx9, b3, if_neg n6j]
/-- a learned clause more, and a conflict -/
theorem cr_push (h : crp y S f) (hn : cs_n S ≤ 39) {c : Int32} (hc : cr_c (cs_k S) c) : crp y (cs_wco (cs_push S c) (cs_co S + nI 1)) (cm_ps f (cs_t S) (cs_n S) c) ∧ cs_n (cs_wco (cs_push S c) (cs_co S + nI 1)) = cs_n S + 1 := by
  have h9 := cr_k9 h.1
  have g9 := cr_g9 h.1
  have hB := h.1.1.1
  have h20 := hB.2.1.2
  have eg : cs_le S + nI 1 = nI (cs_n S + 1) := by rw [hB.2.2.1.1, nI_add]
  obtain ⟨⟨hIs, hIc, hIt, hIr⟩, hF0, hFc, hFt, hFx⟩ := h
  obtain ⟨S', hS'⟩ : ∃ S', S' = cs_wco (cs_push S c) (cs_co S + nI 1) := ⟨_, rfl⟩
  rw [← hS']
  have fn : cs_n S' = cs_n S + 1 := cs_n_nI (by rw [hS']; exact eg) (by omega)
  have fg : cs_g S' = cs_g S := by rw [hS']; rfl
  have ft : cs_t S' = cs_t S := by rw [hS']; rfl
  have fk : cs_k S' = cs_k S := by rw [hS']; rfl
  have fcl : cs_cl S' = upd (cs_cl S) (cs_t S + cs_n S) c := by rw [hS']; rfl
  have s1 : cs_s S' = cs_s S := by rw [hS']; rfl
  have l1 : cs_l S' = cs_l S := by rw [hS']; rfl
  have p1 : cs_pv S' = cs_pv S := by rw [hS']; rfl
  have frs : cs_rs S' = cs_rs S := by rw [hS']; rfl
  have hB2 : cs_Bd S' := ⟨by rw [fg, hS']; exact hB.1, by rw [ft, hS']; exact hB.2.1, ⟨by rw [fn, hS']; exact eg, by rw [fn]; omega⟩, by rw [fk, hS']; exact hB.2.2.2⟩
  have ps : ∀ i, i ≠ 49 + (cs_t S + cs_n S) → i ≠ 4 → i ≠ 8 → cm_ps f (cs_t S) (cs_n S) c i = f i := fun i h1 h2 h3 => by
    unfold cm_ps
    rw [pk_un h3, pk_un h2, pk_un h1]
  refine ⟨⟨⟨⟨hB2, by rw [fk]; exact hIs.2.1, by rw [hS']; exact hIs.2.2.1, by rw [hS']; exact hIs.2.2.2.1, by rw [hS']; exact hIs.2.2.2.2⟩, fun k hk => ?_, by rw [hS']; exact hIt, fun k hk => ?_⟩, ⟨?_, ?_, ?_, ?_, ?_, ?_, ?_, ?_, ?_, ?_⟩, fun k hk => ?_, fun k hk => ?_, fun x hx9 hxk => ?_⟩, fn⟩
  · rw [ft, fn] at hk
    rw [fk, fcl]
    by_cases e : k = cs_t S + cs_n S
    · rw [e, pk_us]; exact hc
    · rw [pk_un e]; exact hIc k (by omega)
  · rw [fg] at hk
    unfold cr_r
    rw [l1, p1, frs, fcl, s1, ft, fn]
    rcases hIr k hk with ⟨a, c, hc, b1, b2, b3⟩ | a
    · left
      exact ⟨a, c, by omega, b1, by rw [pk_un (by omega)]; exact b2, fun i hi hb => b3 i hi (by rw [pk_un (by omega)] at hb; exact hb)⟩
    · exact Or.inr a
  · rw [ps 0 (by omega) (by omega) (by omega), hS']; exact hF0.1
  · rw [ps 1 (by omega) (by omega) (by omega), hS']; exact hF0.2.1
  · rw [ps 2 (by omega) (by omega) (by omega), hS']; exact hF0.2.2.1
  · rw [ps 3 (by omega) (by omega) (by omega), hS']; exact hF0.2.2.2.1
  · rw [hB2.2.2.1.1, fn]
    unfold cm_ps
    rw [pk_un (by omega), pk_us]
  · rw [ps 5 (by omega) (by omega) (by omega), hS']; exact hF0.2.2.2.2.2.1
  · rw [ps 6 (by omega) (by omega) (by omega), hS']; exact hF0.2.2.2.2.2.2.1
  · rw [ps 7 (by omega) (by omega) (by omega), hS']; exact hF0.2.2.2.2.2.2.2.1
  · unfold cm_ps
    rw [pk_us, hF0.2.2.2.2.2.2.2.2.1, hS']
  · rw [ps 9 (by omega) (by omega) (by omega)]; exact hF0.2.2.2.2.2.2.2.2.2
  · rw [ft, fn] at hk
    rw [fcl]
    by_cases e : k = cs_t S + cs_n S
    · rw [e, pk_us]; unfold cm_ps; rw [pk_un (by omega), pk_un (by omega), pk_us]
    · rw [pk_un e, ps _ (by omega) (by omega) (by omega)]; exact hFc k (by omega)
  · rw [fg] at hk
    have hs9 := cr_sg9 h9 (hIt.1 k hk).2.1
    rw [s1, ps _ (by omega) (by omega) (by omega), ps _ (by omega) (by omega) (by omega), ps _ (by omega) (by omega) (by omega), ps _ (by omega) (by omega) (by omega), hS']
    exact hFt k hk
  · rw [fg, s1] at hxk
    rw [ps _ (by omega) (by omega) (by omega), ps _ (by omega) (by omega) (by omega), ps _ (by omega) (by omega) (by omega)]
    exact hFx x hx9 hxk
/-- what the model's rows hold -/
theorem cr_B (h : crp y S f) : cm_B f (cs_t S) (cs_n S) (cs_g S) := by
  have hB := h.1.1.1
  refine ⟨⟨?_, hB.2.1.2⟩, ⟨?_, hB.2.2.1.2⟩, ⟨?_, hB.1.2⟩, fun k hk => ?_⟩
  · rw [h.2.1.2.2.2.1]; exact hB.2.1.1
  · rw [h.2.1.2.2.2.2.1]; exact hB.2.2.1.1
  · rw [h.2.1.2.2.2.2.2.2.2.1]; exact hB.1.1
  · exact ⟨cs_s S k % 10, by omega, (h.2.2.2.1 k hk).1⟩
theorem cr_R (h : crp y S f) : cm_R f := by
  intro x hx
  have hB := h.1.1.1
  have h9 := cr_k9 h.1
  by_cases c : ∃ k, k < cs_g S ∧ cs_s S k % 10 = x
  · obtain ⟨k, hk, rfl⟩ := c
    rw [(h.2.2.2.1 k hk).2.2.2]
    rcases h.1.2.2.2 k hk with ⟨-, c, hc, e, -⟩ | ⟨-, e⟩
    · refine ⟨49 + c, ?_, by rw [e, nI_add]⟩
      have := hB.2.1.2; have := hB.2.2.1.2; omega
    · exact ⟨43, by omega, by rw [e]; decide⟩
  · rw [(h.2.2.2.2 x hx (fun k hk e => c ⟨k, hk, e⟩)).2.2]
    exact ⟨43, by omega, by decide⟩
end CR6
