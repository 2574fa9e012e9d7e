/-! going back -/
section CR4
variable {y : Int32} {S : cs_S} {f : Nat → Int32}
theorem cs_gbn_spec (h : cr_I S) {m : Nat} (hm : m ≤ 9) : ∀ g, g ≤ cs_g S → cs_gbn S (nI m) g ≤ g ∧ (∀ k, k < cs_gbn S (nI m) g → cs_l S k ≤ m) ∧ ∀ k, cs_gbn S (nI m) g ≤ k → k < g → m < cs_l S k
  | 0, _ => ⟨Nat.le_refl _, fun k hk => absurd hk (Nat.not_lt_zero k), fun k _ hk => absurd hk (Nat.not_lt_zero k)⟩
  | g + 1, hg => by
    have e := (h.2.2.1.1 g (by omega)).2.2
    have hle9 : cs_l S g < 2 ^ 31 := by have := cr_g9 h; omega
    unfold cs_gbn
    by_cases c : cs_lv S g ≤ nI m
    · rw [if_pos c]
      rw [e.1, nI_leI hle9 (by omega)] at c
      exact ⟨Nat.le_refl _, fun k hk => Nat.le_trans (cr_mono h g (by omega) (by omega)) c, fun k h1 h2 => by omega⟩
    · rw [if_neg c]
      rw [e.1, nI_leI hle9 (by omega)] at c
      obtain ⟨i1, i2, i3⟩ := cs_gbn_spec h hm g (by omega)
      refine ⟨by omega, i2, fun k h1 h2 => ?_⟩
      by_cases q : k = g
      · subst q; omega
      · exact i3 k h1 (by omega)
theorem cs_gbv_bt (h : cr_I S) (L : Int32) {i : Nat} (hi : i < 32) : ∀ g va, g ≤ cs_g S → (bt (cs_gbv S L g va) i = true ↔ bt va i = true ∧ ∀ k, cs_gbn S L g ≤ k → k < g → cs_s S k ≠ i)
  | 0, va, _ => ⟨fun q => ⟨q, fun k _ hk => absurd hk (Nat.not_lt_zero k)⟩, fun q => q.1⟩
  | g + 1, va, hg => by
    have h9 := cr_k9 h
    obtain ⟨e1, e2, -⟩ := h.2.2.1.1 g (by omega)
    have e3 := cr_sg9 h9 e2
    unfold cs_gbv cs_gbn
    by_cases c : cs_lv S g ≤ L
    · rw [if_pos c, if_pos c]
      exact ⟨fun q => ⟨q, fun k h1 h2 => by omega⟩, fun q => q.1⟩
    · rw [if_neg c, if_neg c, cs_gbv_bt h L hi g _ (by omega), b_and, b_xor, e1, cb_set_bt (by omega) hi, cb_m1bt i hi, Bool.and_eq_true]
      have hle := cs_gbn_le S L g
      constructor
      · rintro ⟨⟨a, b⟩, d⟩
        refine ⟨a, fun k h1 h2 => ?_⟩
        by_cases q : k = g
        · subst q; intro z; rw [decide_eq_true z.symm] at b; cases b
        · exact d k h1 (by omega)
      · rintro ⟨a, d⟩
        refine ⟨⟨a, ?_⟩, fun k h1 h2 => d k h1 (by omega)⟩
        rw [decide_eq_false (fun z => d g hle (by omega) z.symm)]; rfl
/-- the reference's first half, on the values that stay -/
theorem cm_gb_stay (h : crp y S f) (L : Int32) {a : Nat} (ha : a ≤ cs_g S) (hs : ∀ k, k < a → cs_lv S k ≤ L) : ∀ n k, k + n = a → cm_gb L (cs_g S - k) k k f = cm_gb L (cs_g S - a) a a f
  | 0, k, hk => by rw [show k = a by omega]
  | n + 1, k, hk => by
    have h9 := cr_k9 h.1
    obtain ⟨b1, b2, b3, b4⟩ := h.2.2.2.1 k (by omega)
    have hx := cr_sg9 h9 (h.1.2.2.1.1 k (by omega)).2.1
    have ex : cm_x f k = cs_s S k % 10 := by unfold cm_x; rw [b1, nI_clamp (by omega)]
    obtain ⟨m, hm⟩ : ∃ m, cs_g S - k = m + 1 := ⟨cs_g S - k - 1, by omega⟩
    rw [hm]
    conv => lhs; unfold cm_gb
    rw [ex, b3, if_pos (hs k (by omega))]
    have eu : upd f (10 + k) (f (10 + k)) = f := by
      funext j; unfold upd; by_cases c : j = 10 + k
      · rw [if_pos c, c]
      · rw [if_neg c]
    rw [eu, show m = cs_g S - (k + 1) by omega]
    exact cm_gb_stay h L ha hs n (k + 1) (by omega)
/-- things forgotten: those of places from a on, below k -/
def cr_gone (S : cs_S) (f f' : Nat → Int32) (a k : Nat) : Prop := (∀ j, j < 19 → f' j = f j) ∧ (∀ j, 49 ≤ j → f' j = f j) ∧ (∀ x, x ≤ 9 → (∀ m, a ≤ m → m < k → cs_s S m % 10 ≠ x) → f' (19 + x) = f (19 + x) ∧ f' (29 + x) = f (29 + x) ∧ f' (39 + x) = f (39 + x)) ∧ ∀ x, x ≤ 9 → (∃ m, a ≤ m ∧ m < k ∧ cs_s S m % 10 = x) → f' (19 + x) = -nI 6 ∧ f' (29 + x) = -nI 6 ∧ f' (39 + x) = -nI 6
theorem cm_gb_go (h : crp y S f) (L : Int32) {a : Nat} (hs : ∀ k, a ≤ k → k < cs_g S → ¬ cs_lv S k ≤ L) : ∀ n k f', k + n = cs_g S → a ≤ k → cr_gone S f f' a k → (cm_gb L n k a f').1 = a ∧ cr_gone S f (cm_gb L n k a f').2 a (cs_g S)
  | 0, k, f', hk, hak, hg => by
    rw [Nat.add_zero] at hk
    subst hk
    exact ⟨rfl, hg⟩
  | n + 1, k, f', hk, hak, hg => by
    have h9 := cr_k9 h.1
    have g9 := cr_g9 h.1
    obtain ⟨g1, g2, g3, g4⟩ := hg
    obtain ⟨b1, b2, b3, b4⟩ := h.2.2.2.1 k (by omega)
    have hx := cr_sg9 h9 (h.1.2.2.1.1 k (by omega)).2.1
    have ex : cm_x f' k = cs_s S k % 10 := by unfold cm_x; rw [g1 _ (by omega), b1, nI_clamp (by omega)]
    have hun := g3 (cs_s S k % 10) (by omega) (fun m h1 h2 => h.1.2.2.1.2.1 m k h2 (by omega))
    unfold cm_gb
    rw [ex, hun.2.1, b3, if_neg (hs k hak (by omega))]
    refine cm_gb_go h L hs n (k + 1) _ (by omega) (by omega) ⟨fun j hj => ?_, fun j hj => ?_, fun x hx9 hm => ?_, fun x hx9 hm => ?_⟩
    · unfold cm_fg
      rw [pk_un (by omega), pk_un (by omega), pk_un (by omega)]; exact g1 j hj
    · unfold cm_fg
      rw [pk_un (by omega), pk_un (by omega), pk_un (by omega)]; exact g2 j hj
    · have hne := hm k hak (by omega)
      obtain ⟨q1, q2, q3⟩ := g3 x hx9 (fun m h1 h2 => hm m h1 (by omega))
      unfold cm_fg
      refine ⟨?_, ?_, ?_⟩
      · rw [pk_un (by omega), pk_un (by omega), pk_un (by omega)]; exact q1
      · rw [pk_un (by omega), pk_un (by omega), pk_un (by omega)]; exact q2
      · rw [pk_un (by omega), pk_un (by omega), pk_un (by omega)]; exact q3
    · unfold cm_fg
      by_cases e : cs_s S k % 10 = x
      · subst e
        refine ⟨?_, ?_, ?_⟩
        · rw [pk_un (by omega), pk_un (by omega), pk_us]
        · rw [pk_un (by omega), pk_us]
        · rw [pk_us]
      · obtain ⟨m, h1, h2, h3⟩ := hm
        have hmk : m ≠ k := fun z => e (by rw [← z]; exact h3)
        obtain ⟨q1, q2, q3⟩ := g4 x hx9 ⟨m, h1, by omega, h3⟩
        refine ⟨?_, ?_, ?_⟩
        · rw [pk_un (by omega), pk_un (by omega), pk_un (by omega)]; exact q1
        · rw [pk_un (by omega), pk_un (by omega), pk_un (by omega)]; exact q2
        · rw [pk_un (by omega), pk_un (by omega), pk_un (by omega)]; exact q3
theorem cr_gb (h : crp y S f) {m : Nat} (hm : m ≤ cs_pv S (cs_g S)) : crp y (cs_gb S (nI m)) (cm_gbk (nI m) (cs_g S) f) ∧ (cm_gb (nI m) (cs_g S) 0 0 f).1 = cs_gbn S (nI m) (cs_g S) := by
  have h9 := cr_k9 h.1
  have g9 := cr_g9 h.1
  have hpv := cr_pv_le h.1
  obtain ⟨a1, a2, a3⟩ := cs_gbn_spec h.1 (m := m) (by omega) (cs_g S) (Nat.le_refl _)
  have hbv := fun i (hi : i < 32) => cs_gbv_bt h.1 (nI m) hi (cs_g S) (cs_va S) (Nat.le_refl _)
  have hll : ∀ k, k < cs_g S → cs_l S k < 2 ^ 31 := fun k hk => by have := (h.1.2.2.1.1 k hk).2.2.2; omega
  have hst : ∀ k, k < cs_gbn S (nI m) (cs_g S) → cs_lv S k ≤ nI m := fun k hk => by
    rw [(h.1.2.2.1.1 k (by omega)).2.2.1]; exact nI_le (a2 k hk) (by omega)
  have hgo : ∀ k, cs_gbn S (nI m) (cs_g S) ≤ k → k < cs_g S → ¬ cs_lv S k ≤ nI m := fun k h1 h2 => by
    rw [(h.1.2.2.1.1 k h2).2.2.1]; exact nI_ge (a3 k h1 h2) (hll k h2)
  have e1 := cm_gb_stay h (nI m) a1 hst (cs_gbn S (nI m) (cs_g S)) 0 (by omega)
  rw [Nat.sub_zero] at e1
  obtain ⟨e2, e3⟩ := cm_gb_go h (nI m) hgo (cs_g S - cs_gbn S (nI m) (cs_g S)) (cs_gbn S (nI m) (cs_g S)) f (by omega) (Nat.le_refl _) ⟨fun _ _ => rfl, fun _ _ => rfl, fun _ _ _ => ⟨rfl, rfl, rfl⟩, fun x _ ⟨k, h1, h2, _⟩ => by omega⟩
  rw [← e1] at e2 e3
  refine ⟨?_, e2⟩
  have hB2 := cs_Bd_gb h.1.1.1 (nI m)
  -- the level that is left is m
  have hlast : cs_gbn S (nI m) (cs_g S) = 0 → m = 0 := fun z => by
    by_cases c : cs_g S = 0
    · unfold cs_pv at hm; rw [if_pos c] at hm; omega
    · have := a3 0 (by omega) (by omega)
      have := (h.1.2.2.1.1 0 (by omega)).2.2.2
      omega
  have hlast2 : cs_gbn S (nI m) (cs_g S) ≠ 0 → cs_l S (cs_gbn S (nI m) (cs_g S) - 1) = m := fun z => by
    have q := a2 (cs_gbn S (nI m) (cs_g S) - 1) (by omega)
    by_cases c : cs_gbn S (nI m) (cs_g S) = cs_g S
    · rw [c] at q ⊢
      unfold cs_pv at hm
      rw [if_neg (by omega)] at hm
      omega
    · have q2 := a3 (cs_gbn S (nI m) (cs_g S)) (Nat.le_refl _) (by omega)
      have q3 := (cr_mono1 h.1 (k := cs_gbn S (nI m) (cs_g S)) (by omega)).2
      unfold cs_pv at q3
      rw [if_neg z] at q3
      omega
  have e0 : cs_gb S (nI m) = cs_wgv S (nI (cs_gbn S (nI m) (cs_g S))) (cs_gbv S (nI m) (cs_g S) (cs_va S)) := rfl
  have ef : cm_gbk (nI m) (cs_g S) f = upd (upd (cm_zt (cm_gb (nI m) (cs_g S) 0 0 f).2 (cm_gb (nI m) (cs_g S) 0 0 f).1 9) 7 (nI (cm_gb (nI m) (cs_g S) 0 0 f).1)) 6 (nI m) := rfl
  rw [ef, e2]
  rw [e0] at hB2 ⊢
  generalize cs_gbn S (nI m) (cs_g S) = a at *
  generalize (cm_gb (nI m) (cs_g S) 0 0 f).2 = f2 at e3 ⊢
  generalize cs_gbv S (nI m) (cs_g S) (cs_va S) = va2 at *
  clear e1 e2 ef hst hgo
  obtain ⟨⟨hIs, hIc, hIt, hIr⟩, hF0, hFc, hFt, hFx⟩ := h
  obtain ⟨S', hS'⟩ : ∃ S', S' = cs_wgv S (nI a) va2 := ⟨_, rfl⟩
  rw [← hS'] at hB2 ⊢
  have fg : cs_g S' = a := cs_g_nI (by rw [hS']) (by omega)
  have ft : cs_t S' = cs_t S := by rw [hS']; rfl
  have fn : cs_n S' = cs_n S := by rw [hS']; rfl
  have fk : cs_k S' = cs_k S := by rw [hS']; rfl
  have fcl : cs_cl S' = cs_cl S := by rw [hS']
  have fsg : cs_sg S' = cs_sg S := by rw [hS']
  have flv : cs_lv S' = cs_lv S := by rw [hS']
  have frs : cs_rs S' = cs_rs S := by rw [hS']
  have fva : cs_va S' = va2 := by rw [hS']
  have s1 : cs_s S' = cs_s S := by funext k; unfold cs_s; rw [fsg]
  have l1 : cs_l S' = cs_l S := by funext k; unfold cs_l; rw [flv]
  have p1 : cs_pv S' = cs_pv S := by funext k; unfold cs_pv; rw [l1]
  have uni : ∀ j k, j < cs_g S → k < cs_g S → cs_s S j % 10 = cs_s S k % 10 → j = k := by
    intro j k hj hk e
    rcases Nat.lt_trichotomy j k with q | q | q
    · exact absurd e (hIt.2.1 j k q hk)
    · exact q
    · exact absurd e.symm (hIt.2.1 k j q hj)
  obtain ⟨g1, g2, g3, g4⟩ := e3
  have zt : ∀ j, j < 10 ∨ 19 ≤ j → j ≠ 7 → j ≠ 6 → upd (upd (cm_zt f2 a 9) 7 (nI a)) 6 (nI m) j = f2 j := fun j hj h7 h6 => by
    rw [pk_un h6, pk_un h7]; unfold cm_zt; rw [if_neg (by omega)]
  refine ⟨⟨⟨hB2, by rw [fk]; exact hIs.2.1, by rw [hS']; exact hIs.2.2.1, by rw [hS']; exact hIs.2.2.2.1, by rw [hS']; exact hIs.2.2.2.2⟩, fun k hk => ?_, ⟨fun k hk => ?_, fun j k hjk hk => ?_, fun j hj => ?_⟩, fun k hk => ?_⟩, ⟨?_, ?_, ?_, ?_, ?_, ?_, ?_, ?_, ?_, ?_⟩, fun k hk => ?_, fun k hk => ?_, fun x hx9 hxk => ?_⟩
  · rw [ft, fn] at hk; rw [fk, fcl]; exact hIc k hk
  · rw [fg] at hk; rw [s1, l1, fk, fsg, flv]; exact hIt.1 k (by omega)
  · rw [fg] at hk; rw [s1]; exact hIt.2.1 j k hjk (by omega)
  · rw [fg, fva, hbv j hj, hIt.2.2 j hj, s1]
    constructor
    · rintro ⟨⟨k, hk, e⟩, b⟩
      refine ⟨k, ?_, e⟩
      rcases Nat.lt_or_ge k a with q | q
      · exact q
      · exact absurd e (b k q hk)
    · rintro ⟨k, hk, e⟩
      refine ⟨⟨k, by omega, e⟩, fun j h1 h2 z => ?_⟩
      have := uni j k h2 (by omega) (by rw [z, e])
      omega
  · rw [fg] at hk
    unfold cr_r
    rw [l1, p1, frs, fcl, s1, ft, fn]
    exact hIr k (by omega)
  · rw [zt 0 (by omega) (by omega) (by omega), g1 0 (by omega), hS']; exact hF0.1
  · rw [zt 1 (by omega) (by omega) (by omega), g1 1 (by omega), hS']; exact hF0.2.1
  · rw [zt 2 (by omega) (by omega) (by omega), g1 2 (by omega), hS']; exact hF0.2.2.1
  · rw [zt 3 (by omega) (by omega) (by omega), g1 3 (by omega), hS']; exact hF0.2.2.2.1
  · rw [zt 4 (by omega) (by omega) (by omega), g1 4 (by omega), hS']; exact hF0.2.2.2.2.1
  · rw [zt 5 (by omega) (by omega) (by omega), g1 5 (by omega), hS']; exact hF0.2.2.2.2.2.1
  · rw [pk_us, fg]
    unfold cs_pl
    by_cases z : a = 0
    · rw [if_pos z, hlast z]
    · rw [if_neg z, flv, (hIt.1 (a - 1) (by omega)).2.2.1, hlast2 z]
  · rw [pk_un (by omega), pk_us, hS']
  · rw [zt 8 (by omega) (by omega) (by omega), g1 8 (by omega), hS']; exact hF0.2.2.2.2.2.2.2.2.1
  · rw [zt 9 (by omega) (by omega) (by omega), g1 9 (by omega)]; exact hF0.2.2.2.2.2.2.2.2.2
  · rw [ft, fn] at hk
    rw [zt _ (by omega) (by omega) (by omega), g2 _ (by omega), fcl]; exact hFc k hk
  · rw [fg] at hk
    have hs := cr_sg9 h9 (hIt.1 k (by omega)).2.1
    obtain ⟨b1, b2, b3, b4⟩ := hFt k (by omega)
    obtain ⟨q1, q2, q3⟩ := g3 (cs_s S k % 10) (by omega) (fun j h1 h2 z => by have := uni j k h2 (by omega) z; omega)
    rw [s1, flv, frs]
    refine ⟨?_, ?_, ?_, ?_⟩
    · rw [pk_un (by omega), pk_un (by omega)]; unfold cm_zt; rw [if_neg (by omega), g1 _ (by omega)]; exact b1
    · rw [zt _ (by omega) (by omega) (by omega), q1]; exact b2
    · rw [zt _ (by omega) (by omega) (by omega), q2]; exact b3
    · rw [zt _ (by omega) (by omega) (by omega), q3]; exact b4
  · rw [fg, s1] at hxk
    rw [zt _ (by omega) (by omega) (by omega), zt _ (by omega) (by omega) (by omega), zt _ (by omega) (by omega) (by omega)]
    by_cases c : ∃ j, a ≤ j ∧ j < cs_g S ∧ cs_s S j % 10 = x
    · exact g4 x hx9 c
    · obtain ⟨q1, q2, q3⟩ := g3 x hx9 (fun j h1 h2 z => c ⟨j, h1, h2, z⟩)
      rw [q1, q2, q3]
      refine hFx x hx9 (fun k hk z => ?_)
      rcases Nat.lt_or_ge k a with q | q
      · exact hxk k q z
      · exact c ⟨k, q, hk, z⟩
end CR4
