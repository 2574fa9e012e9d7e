/-! beginning anew, copying; what holds between the whole class and the reference -/
theorem cr_congr {y : Int32} {S : cs_S} {f f' : Nat → Int32} (h : crp y S f) (e : ∀ j, j < 109 → f' j = f j) : crp y S f' := by
  have h9 := cr_k9 h.1
  have g9 := cr_g9 h.1
  have n60 : cs_t S + cs_n S ≤ 60 := cr_n60 h
  obtain ⟨hI, hF0, hFc, hFt, hFx⟩ := h
  refine ⟨hI, ⟨?_, ?_, ?_, ?_, ?_, ?_, ?_, ?_, ?_, ?_⟩, fun k hk => ?_, fun k hk => ?_, fun x hx9 hxk => ?_⟩
  · rw [e 0 (by omega)]; exact hF0.1
  · rw [e 1 (by omega)]; exact hF0.2.1
  · rw [e 2 (by omega)]; exact hF0.2.2.1
  · rw [e 3 (by omega)]; exact hF0.2.2.2.1
  · rw [e 4 (by omega)]; exact hF0.2.2.2.2.1
  · rw [e 5 (by omega)]; exact hF0.2.2.2.2.2.1
  · rw [e 6 (by omega)]; exact hF0.2.2.2.2.2.2.1
  · rw [e 7 (by omega)]; exact hF0.2.2.2.2.2.2.2.1
  · rw [e 8 (by omega)]; exact hF0.2.2.2.2.2.2.2.2.1
  · rw [e 9 (by omega)]; exact hF0.2.2.2.2.2.2.2.2.2
  · rw [e _ (by omega)]; exact hFc k hk
  · rw [e _ (by omega), e _ (by omega), e _ (by omega), e _ (by omega)]; exact hFt k hk
  · rw [e _ (by omega), e _ (by omega), e _ (by omega)]; exact hFx x hx9 hxk
theorem cr_copy {S N : cs_S} {f : Nat → Int32} (h : cr N f) : cr (cs_copy S N) f := by
  have h9 := cr_k9 h.1
  have g9 := cr_g9 h.1
  have n60 : cs_t N + cs_n N ≤ 60 := cr_n60 h
  obtain ⟨⟨hIs, hIc, hIt, hIr⟩, hF0, hFc, hFt, hFx⟩ := h
  obtain ⟨S', hS'⟩ : ∃ S', S' = cs_copy S N := ⟨_, rfl⟩
  rw [← hS']
  have fg : cs_g S' = cs_g N := by rw [hS']; rfl
  have ft : cs_t S' = cs_t N := by rw [hS']; rfl
  have fn : cs_n S' = cs_n N := by rw [hS']; rfl
  have fk : cs_k S' = cs_k N := by rw [hS']; rfl
  have cp : ∀ (a b : Nat → Int32) (n k : Nat), k < n → va_cpy a b 0 0 n k = a k := fun a b n k hk => by
    rw [pk_cpy_in (Nat.zero_le _) (by omega)]
    congr 1
    omega
  have fcl : ∀ k, k < 60 → cs_cl S' k = cs_cl N k := fun k hk => by rw [hS']; exact cp _ _ 60 k hk
  have fsg : ∀ k, k < 9 → cs_sg S' k = cs_sg N k := fun k hk => by rw [hS']; exact cp _ _ 9 k hk
  have flv : ∀ k, k < 9 → cs_lv S' k = cs_lv N k := fun k hk => by rw [hS']; exact cp _ _ 9 k hk
  have frs : ∀ k, k < 9 → cs_rs S' k = cs_rs N k := fun k hk => by rw [hS']; exact cp _ _ 9 k hk
  have s1 : ∀ k, k < 9 → cs_s S' k = cs_s N k := fun k hk => by unfold cs_s; rw [fsg k hk]
  have l1 : ∀ k, k < 9 → cs_l S' k = cs_l N k := fun k hk => by unfold cs_l; rw [flv k hk]
  have p1 : ∀ k, k ≤ 9 → cs_pv S' k = cs_pv N k := fun k hk => by
    unfold cs_pv
    by_cases c : k = 0
    · rw [if_pos c, if_pos c]
    · rw [if_neg c, if_neg c, l1 (k - 1) (by omega)]
  refine ⟨⟨⟨by rw [hS']; exact hIs.1, by rw [fk]; exact hIs.2.1, by rw [hS']; exact hIs.2.2.1, by rw [hS']; exact hIs.2.2.2.1, by rw [hS']; exact hIs.2.2.2.2⟩, fun k hk => ?_, ⟨fun k hk => ?_, fun j k hjk hk => ?_, fun j hj => ?_⟩, fun k hk => ?_⟩, ⟨?_, ?_, ?_, ?_, ?_, ?_, ?_, ?_, ?_, ?_⟩, fun k hk => ?_, fun k hk => ?_, fun x hx9 hxk => ?_⟩
  · rw [ft, fn] at hk; rw [fk, fcl k (by omega)]; exact hIc k hk
  · rw [fg] at hk; rw [s1 k (by omega), l1 k (by omega), fk, fsg k (by omega), flv k (by omega)]; exact hIt.1 k hk
  · rw [fg] at hk; rw [s1 k (by omega), s1 j (by omega)]; exact hIt.2.1 j k hjk hk
  · rw [fg, show cs_va S' = cs_va N by rw [hS']; rfl, hIt.2.2 j hj]
    constructor
    · rintro ⟨k, hk, e⟩; exact ⟨k, hk, by rw [s1 k (by omega)]; exact e⟩
    · rintro ⟨k, hk, e⟩; exact ⟨k, hk, by rw [← s1 k (by omega)]; exact e⟩
  · rw [fg] at hk
    unfold cr_r
    rw [l1 k (by omega), p1 k (by omega), frs k (by omega), s1 k (by omega), ft, fn]
    rcases hIr k hk with ⟨a, c, hc, b1, b2, b3⟩ | a
    · left
      refine ⟨a, c, hc, b1, by rw [fcl c (by omega)]; exact b2, fun i hi hb => ?_⟩
      rw [fcl c (by omega)] at hb
      rcases b3 i hi hb with z | ⟨j, hj, z⟩
      · exact Or.inl z
      · exact Or.inr ⟨j, hj, by rw [s1 j (by omega)]; exact z⟩
    · exact Or.inr a
  · rw [hS']; exact hF0.1
  · rw [hS']; exact hF0.2.1
  · rw [hS']; exact hF0.2.2.1
  · rw [hS']; exact hF0.2.2.2.1
  · rw [hS']; exact hF0.2.2.2.2.1
  · rw [hS']; exact hF0.2.2.2.2.2.1
  · rw [fg, hF0.2.2.2.2.2.2.1]
    unfold cs_pl
    by_cases c : cs_g N = 0
    · rw [if_pos c, if_pos c]
    · rw [if_neg c, if_neg c, flv _ (by omega)]
  · rw [hS']; exact hF0.2.2.2.2.2.2.2.1
  · rw [hS']; exact hF0.2.2.2.2.2.2.2.2.1
  · rw [hS']; exact hF0.2.2.2.2.2.2.2.2.2
  · rw [ft, fn] at hk; rw [fcl k (by omega)]; exact hFc k hk
  · rw [fg] at hk; rw [s1 k (by omega), flv k (by omega), frs k (by omega)]; exact hFt k hk
  · rw [fg] at hxk
    exact hFx x hx9 (fun k hk => by rw [← s1 k (by omega)]; exact hxk k hk)
/-- a search that begins anew -/
theorem cm_fgs_hi (f : Nat → Int32) : ∀ n j, 49 ≤ j → n ≤ 10 → cm_fgs f n j = f j
  | 0, _, _, _ => rfl
  | n + 1, j, h, hn => by
    unfold cm_fgs cm_fg
    rw [pk_un (by omega), pk_un (by omega), pk_un (by omega)]
    exact cm_fgs_hi f n j h (by omega)
theorem cm_fgs_at (f : Nat → Int32) {x : Nat} (hx : x ≤ 9) : ∀ n, x < n → n ≤ 10 → cm_fgs f n (19 + x) = -nI 6 ∧ cm_fgs f n (29 + x) = -nI 6 ∧ cm_fgs f n (39 + x) = -nI 6
  | 0, h, _ => absurd h (Nat.not_lt_zero _)
  | n + 1, h, hn => by
    unfold cm_fgs cm_fg
    by_cases e : x = n
    · subst e
      refine ⟨?_, ?_, ?_⟩
      · rw [pk_un (by omega), pk_un (by omega), pk_us]
      · rw [pk_un (by omega), pk_us]
      · rw [pk_us]
    · obtain ⟨a, b, c⟩ := cm_fgs_at f hx n (by omega) (by omega)
      refine ⟨?_, ?_, ?_⟩
      · rw [pk_un (by omega), pk_un (by omega), pk_un (by omega)]; exact a
      · rw [pk_un (by omega), pk_un (by omega), pk_un (by omega)]; exact b
      · rw [pk_un (by omega), pk_un (by omega), pk_un (by omega)]; exact c
/-- what a search's settings and told clauses need -/
def cr_S0 (S : cs_S) (f : Nat → Int32) : Prop := (cs_to S = nI (cs_t S) ∧ cs_t S ≤ 20) ∧ (cs_th S = nI (cs_k S) ∧ 1 ≤ cs_k S ∧ cs_k S ≤ 9) ∧ (∃ r, 1 ≤ r ∧ r ≤ 20 ∧ cs_re S = nI r) ∧ (cs_fi S = nI 0 ∨ cs_fi S = nI 1) ∧ (f 0 = cs_th S ∧ f 1 = cs_re S ∧ f 2 = cs_fi S ∧ f 3 = cs_to S) ∧ ∀ k, k < cs_t S → cr_c (cs_k S) (cs_cl S k) ∧ f (49 + k) = cs_cl S k
theorem cr_S0_of {S : cs_S} {f : Nat → Int32} (h : cr S f) : cr_S0 S f := by
  have hB := h.1.1.1
  exact ⟨hB.2.1, ⟨hB.2.2.2.1, h.1.1.2.1, hB.2.2.2.2⟩, h.1.1.2.2.1, h.1.1.2.2.2.1, ⟨h.2.1.1, h.2.1.2.1, h.2.1.2.2.1, h.2.1.2.2.2.1⟩, fun k hk => ⟨h.1.2.1 k (by omega), h.2.2.1 k (by omega)⟩⟩
theorem cr_anew {S : cs_S} {f : Nat → Int32} (h : cr_S0 S f) : cr (cs_anew S) (cm_an f (cs_t S)) := by
  obtain ⟨ht, hk, hre, hfi, ⟨f0, f1, f2, f3⟩, hc⟩ := h
  obtain ⟨S', hS'⟩ : ∃ S', S' = cs_anew S := ⟨_, rfl⟩
  rw [← hS']
  have fg : cs_g S' = 0 := cs_g_nI (by rw [hS']; rfl) (by omega)
  have fn : cs_n S' = 0 := cs_n_nI (by rw [hS']; rfl) (by omega)
  have ft : cs_t S' = cs_t S := by rw [hS']; rfl
  have fk : cs_k S' = cs_k S := by rw [hS']; rfl
  have fcl : cs_cl S' = cs_cl S := by rw [hS']; rfl
  have an : ∀ j, j ≠ 6 → j ≠ 7 → (j < 10 ∨ 19 ≤ j) → cm_an f (cs_t S) j = cm_fgs (cm_an0 f (cs_t S)) 10 j := fun j h6 h7 hj => by
    unfold cm_an cm_gbk
    rw [pk_un h6, pk_un h7]
    unfold cm_zt
    rw [if_neg (by omega)]
    rfl
  have a0 : ∀ j, j ≠ 8 → j ≠ 9 → j ≠ 5 → j ≠ 7 → j ≠ 4 → (j < 49 ∨ j < 49 + cs_t S) → cm_an0 f (cs_t S) j = f j := fun j h8 h9 h5 h7 h4 hj => by
    unfold cm_an0
    rw [pk_un h7, pk_un h5, pk_un h9, pk_un h8]
    unfold cm_zc
    rw [if_neg (by omega), pk_un h4]
  have alo : ∀ j, j < 4 → cm_an f (cs_t S) j = f j := fun j hj => by
    rw [an j (by omega) (by omega) (Or.inl (by omega)), cm_fgs_lo _ (by omega), a0 j (by omega) (by omega) (by omega) (by omega) (by omega) (Or.inl (by omega))]
  have hz : ∀ k : Nat, ¬ k < 0 := fun k => Nat.not_lt_zero k
  refine ⟨⟨⟨⟨⟨by rw [fg, hS']; rfl, by omega⟩, ⟨by rw [ft, hS']; exact ht.1, by omega⟩, ⟨by rw [fn, hS']; rfl, by omega⟩, ⟨by rw [fk, hS']; exact hk.1, by omega⟩⟩, by rw [fk]; exact hk.2.1, by rw [hS']; exact hre, by rw [hS']; exact hfi, Or.inl (by rw [hS']; rfl)⟩, fun k hk2 => ?_, ⟨fun k hk2 => ?_, fun j k _ hk2 => ?_, fun j hj => ?_⟩, fun k hk2 => ?_⟩, ⟨?_, ?_, ?_, ?_, ?_, ?_, ?_, ?_, ?_, ?_⟩, fun k hk2 => ?_, fun k hk2 => ?_, fun x hx9 hxk => ?_⟩
  · rw [ft, fn, Nat.add_zero] at hk2; rw [fk, fcl]; exact (hc k hk2).1
  · rw [fg] at hk2; exact absurd hk2 (hz k)
  · rw [fg] at hk2; exact absurd hk2 (hz k)
  · rw [fg, show cs_va S' = 0 by rw [hS']; rfl, b_0]
    exact ⟨fun q => (by cases q), fun ⟨k, hk2, _⟩ => absurd hk2 (hz k)⟩
  · rw [fg] at hk2; exact absurd hk2 (hz k)
  · rw [alo 0 (by omega), hS']; exact f0
  · rw [alo 1 (by omega), hS']; exact f1
  · rw [alo 2 (by omega), hS']; exact f2
  · rw [alo 3 (by omega), hS']; exact f3
  · rw [an 4 (by omega) (by omega) (Or.inl (by omega)), cm_fgs_lo _ (by omega), hS']
    unfold cm_an0
    rw [pk_un (by omega), pk_un (by omega), pk_un (by omega), pk_un (by omega)]
    unfold cm_zc
    rw [if_neg (by omega), pk_us]
    rfl
  · rw [an 5 (by omega) (by omega) (Or.inl (by omega)), cm_fgs_lo _ (by omega), hS']
    unfold cm_an0
    rw [pk_un (by omega), pk_us]
    rfl
  · unfold cm_an cm_gbk cs_pl
    rw [pk_us, fg, if_pos rfl]
  · unfold cm_an cm_gbk
    rw [pk_un (by omega), pk_us, hS']
    rfl
  · rw [an 8 (by omega) (by omega) (Or.inl (by omega)), cm_fgs_lo _ (by omega), hS']
    unfold cm_an0
    rw [pk_un (by omega), pk_un (by omega), pk_un (by omega), pk_us]
    rfl
  · rw [an 9 (by omega) (by omega) (Or.inl (by omega)), cm_fgs_lo _ (by omega), hS']
    unfold cm_an0
    rw [pk_un (by omega), pk_un (by omega), pk_us]
    rfl
  · rw [ft, fn, Nat.add_zero] at hk2
    rw [an _ (by omega) (by omega) (Or.inr (by omega)), cm_fgs_hi _ 10 _ (by omega) (by omega), a0 _ (by omega) (by omega) (by omega) (by omega) (by omega) (Or.inr (by omega)), fcl]
    exact (hc k hk2).2
  · rw [fg] at hk2; exact absurd hk2 (hz k)
  · rw [an _ (by omega) (by omega) (Or.inr (by omega)), an _ (by omega) (by omega) (Or.inr (by omega)), an _ (by omega) (by omega) (Or.inr (by omega))]
    exact cm_fgs_at _ hx9 10 (by omega) (Nat.le_refl _)
/-! the relation -/
abbrev cm_hi (M : cm_S) : Nat → Int32 := M.2.2.1
abbrev cm_rc1 (M : cm_S) : Int32 := M.2.2.2.1
abbrev cm_sl (M : cm_S) : Nat → Int32 := M.2.2.2.2.1
abbrev cm_sv (M : cm_S) : Nat → Int32 := M.2.2.2.2.2.1
abbrev cm_pn (M : cm_S) : Int32 := M.2.2.2.2.2.2.2.1
/-- the kept states -/
def cc_Rh (u : Nat) (H : Nat → Option Nat) (L : List cs_S) (hi : Nat → Int32) : Prop := ∀ i, i < u → ∃ j S, H i = some j ∧ L[j]? = some S ∧ cr S (fun k => hi (i * 109 + k))
def cc_Rs (G : Nat → Option Nat) (L : List cs_S) (sl sv : Nat → Int32) : Prop := ∀ s, s < 2 → (G s = none ∧ sv s = 0) ∨ ∃ j S, G s = some j ∧ L[j]? = some S ∧ cr S (fun k => sl (109 * s + k)) ∧ sv s = nI 1
def cc_Rp (f : Nat → Int32) (n : Nat) (pd : Nat → Int32) : Prop := n ≤ 60 ∧ ∀ k, k < n → f k = pd k ∧ nI 33 ≤ f k ∧ f k ≤ nI 126
def cc_R (u : Nat) (N : cs_S) (H G : Nat → Option Nat) (f : Nat → Int32) (n : Nat) (L : List cs_S) (M : cm_S) : Prop := cc_ok u H G L ∧ cr N (cm_st M) ∧ cm_rc1 M = nI u ∧ cc_Rh u H L (cm_hi M) ∧ cc_Rs G L (cm_sl M) (cm_sv M) ∧ cc_Rp f n (cm_pd M) ∧ cm_pn M = nI n
theorem cm_rh_at {u : Nat} (hu : u ≤ 6) (hi : Nat → Int32) {i k : Nat} (hi5 : i < cm_ru u) (hk : k < 109) : cm_rh hi u (i * 109 + k) = if u = 6 then hi ((i + 1) * 109 + k) else hi (i * 109 + k) := by
  unfold cm_rh
  unfold cm_ru at hi5
  by_cases c : u = 6
  · rw [if_pos c] at hi5
    rw [if_pos c, if_pos c]
    unfold cm_sh
    rw [if_pos (by omega), show i * 109 + k + 109 = (i + 1) * 109 + k by omega]
  · rw [if_neg c, if_neg c]
section REL
variable {u : Nat} {N T : cs_S} {H G : Nat → Option Nat} {f : Nat → Int32} {n : Nat} {L : List cs_S} {M : cm_S}
theorem cc_rH_ok (h : cc_ok u H G L) : (∀ i j, cc_rH u H i = some j → j < L.length) ∧ (∀ i, i < cm_ru u → ∃ j, cc_rH u H i = some j) ∧ (∀ i k j, cc_rH u H i = some j → cc_rH u H k = some j → i = k) ∧ (∀ i k j, cc_rH u H i = some j → G k = some j → False) ∧ cm_ru u ≤ 5 := by
  obtain ⟨hu, hH, hG, hun, hi, hg, hd⟩ := h
  have hur : cm_ru u ≤ 5 := by unfold cm_ru; split <;> omega
  by_cases c : u = 6
  · subst c
    have e : ∀ i, cc_rH 6 H i = H (if i < 5 then i + 1 else if i = 5 then 0 else i) := fun i => by
      unfold cc_rH
      rw [if_pos rfl, cc_rot_at]
      split
      · rfl
      · split <;> rfl
    refine ⟨fun i j q => hH _ j (by rw [← e]; exact q), fun i h1 => ?_, fun i k j q1 q2 => ?_, fun i k j q1 q2 => hd _ k j (by rw [← e]; exact q1) q2, hur⟩
    · have h5 : i < 5 := h1
      rw [e, if_pos h5]; exact hun (i + 1) (by omega)
    · rw [e] at q1 q2
      have := hi _ _ j q1 q2
      split at this <;> split at this <;> (try split at this) <;> (try split at this) <;> omega
  · have e : cc_rH u H = H := if_neg c
    have e2 : cm_ru u = u := if_neg c
    rw [e, e2]
    exact ⟨hH, hun, hi, hd, by omega⟩
theorem cc_R_rec (h : cc_R u N H G f n L M) : cc_R (cm_ru u + 1) N (cc_Hr u H L) G f n (cc_Lr u H L N) (cm_rec M u) := by
  obtain ⟨hok, hN, hrc, hRh, hRs, hRp, hpn⟩ := h
  obtain ⟨r1, r2, r3, r4, r5⟩ := cc_rH_ok hok
  obtain ⟨hu, hH, hG, hun, hi, hg, hd⟩ := hok
  -- the kept ones, behind the shift
  have hRR : ∀ i, i < cm_ru u → ∃ j S, cc_rH u H i = some j ∧ L[j]? = some S ∧ cr S (fun k => cm_rh (cm_hi M) u (i * 109 + k)) := by
    intro i hiu
    by_cases c : u = 6
    · subst c
      have hiu5 : i < 5 := hiu
      obtain ⟨j, S, q1, q2, q3⟩ := hRh (i + 1) (by omega)
      refine ⟨j, S, ?_, q2, cr_congr q3 (fun k hk => ?_)⟩
      · unfold cc_rH; rw [if_pos rfl, cc_rot_at, if_pos hiu5]; exact q1
      · show cm_rh (cm_hi M) 6 (i * 109 + k) = cm_hi M ((i + 1) * 109 + k)
        rw [cm_rh_at (by omega) _ hiu hk, if_pos rfl]
    · have e2 : cm_ru u = u := if_neg c
      obtain ⟨j, S, q1, q2, q3⟩ := hRh i (by omega)
      refine ⟨j, S, ?_, q2, cr_congr q3 (fun k hk => ?_)⟩
      · unfold cc_rH; rw [if_neg c]; exact q1
      · show cm_rh (cm_hi M) u (i * 109 + k) = cm_hi M (i * 109 + k)
        rw [cm_rh_at hu _ hiu hk, if_neg c]
  have hcp1 : ∀ i k, i < cm_ru u → k < 109 → cm_cp (cm_st M) (cm_rh (cm_hi M) u) 0 (cm_ru u * 109) 109 (i * 109 + k) = cm_rh (cm_hi M) u (i * 109 + k) := fun i k h1 h2 => by
    unfold cm_cp
    rw [if_neg (fun q => by have := q.1; omega)]
  have hcp2 : ∀ k, k < 109 → cm_cp (cm_st M) (cm_rh (cm_hi M) u) 0 (cm_ru u * 109) 109 (cm_ru u * 109 + k) = cm_st M k := fun k h2 => by
    unfold cm_cp
    rw [if_pos ⟨by omega, by omega⟩, show 0 + (cm_ru u * 109 + k - cm_ru u * 109) = k by omega]
  have e1 : cm_st (cm_rec M u) = cm_st M := rfl
  have e2 : cm_rc1 (cm_rec M u) = nI (cm_ru u + 1) := rfl
  have e3 : cm_hi (cm_rec M u) = cm_cp (cm_st M) (cm_rh (cm_hi M) u) 0 (cm_ru u * 109) 109 := rfl
  have e4 : cm_sl (cm_rec M u) = cm_sl M := rfl
  have e5 : cm_sv (cm_rec M u) = cm_sv M := rfl
  have e6 : cm_pd (cm_rec M u) = cm_pd M := rfl
  have e7 : cm_pn (cm_rec M u) = cm_pn M := rfl
  unfold cc_Hr cc_Lr cc_rHf cc_rL
  generalize cm_rec M u = X at *
  unfold cc_R
  rw [e1, e2, e3, e4, e5, e6, e7]
  generalize hR : cc_rH u H = R at *
  generalize cm_ru u = v at *
  cases hv : R v with
  | some j =>
    have hjl := r1 v j hv
    have hset : ∀ j', j' ≠ j → (L.set j (cs_copy (L.getD j cs_z) N))[j']? = L[j']? := fun j' q => List.getElem?_set_ne (fun z => q z.symm)
    refine ⟨⟨by omega, fun i j' q => ?_, fun i j' q => ?_, fun i q => ?_, r3, hg, r4⟩, hN, rfl, fun i hiv => ?_, fun s hs => ?_, hRp, hpn⟩
    · rw [List.length_set]; exact r1 i j' q
    · rw [List.length_set]; exact hG i j' q
    · by_cases e : i = v
      · exact ⟨j, by rw [e]; exact hv⟩
      · exact r2 i (by omega)
    · by_cases e : i = v
      · subst e
        refine ⟨j, _, hv, List.getElem?_set_self hjl, cr_copy (cr_congr hN (fun k hk => hcp2 k hk))⟩
      · obtain ⟨j', S, q1, q2, q3⟩ := hRR i (by omega)
        refine ⟨j', S, q1, ?_, cr_congr q3 (fun k hk => hcp1 i k (by omega) hk)⟩
        rw [hset j' (fun z => e (r3 i v j (by rw [← z]; exact q1) hv))]
        exact q2
    · rcases hRs s hs with q | ⟨j', S, q1, q2, q3⟩
      · exact Or.inl q
      · exact Or.inr ⟨j', S, q1, by rw [hset j' (fun z => r4 v s j hv (by rw [← z]; exact q1))]; exact q2, q3⟩
  | none =>
    have happ : ∀ j', j' < L.length → (L ++ [cs_copy cs_z N])[j']? = L[j']? := fun j' q => List.getElem?_append_left q
    have hup : ∀ i, i ≠ v → va_up R v (some L.length) i = R i := fun i q => if_neg q
    have hupv : va_up R v (some L.length) v = some L.length := if_pos rfl
    dsimp only
    refine ⟨⟨by omega, fun i j' q => ?_, fun i j' q => ?_, fun i q => ?_, fun i k j' q1 q2 => ?_, hg, fun i k j' q1 q2 => ?_⟩, hN, rfl, fun i hiv => ?_, fun s hs => ?_, hRp, hpn⟩
    · rw [List.length_append]
      by_cases e : i = v
      · rw [e, hupv] at q; cases q; exact Nat.lt_succ_self _
      · rw [hup i e] at q
        exact Nat.lt_of_lt_of_le (r1 i j' q) (Nat.le_add_right _ _)
    · rw [List.length_append]
      exact Nat.lt_of_lt_of_le (hG i j' q) (Nat.le_add_right _ _)
    · by_cases e : i = v
      · exact ⟨_, by rw [e]; exact hupv⟩
      · rw [hup i e]; exact r2 i (by omega)
    · by_cases e1 : i = v
      · by_cases e2 : k = v
        · rw [e1, e2]
        · rw [e1, hupv] at q1
          rw [hup k e2] at q2
          cases q1
          exact absurd (r1 k _ q2) (Nat.lt_irrefl _)
      · by_cases e2 : k = v
        · rw [e2, hupv] at q2
          rw [hup i e1] at q1
          cases q2
          exact absurd (r1 i _ q1) (Nat.lt_irrefl _)
        · rw [hup i e1] at q1
          rw [hup k e2] at q2
          exact r3 i k j' q1 q2
    · by_cases e : i = v
      · rw [e, hupv] at q1
        cases q1
        exact absurd (hG k _ q2) (Nat.lt_irrefl _)
      · rw [hup i e] at q1
        exact r4 i k j' q1 q2
    · by_cases e : i = v
      · subst e
        refine ⟨L.length, cs_copy cs_z N, hupv, by simp, cr_copy (cr_congr hN (fun k hk => hcp2 k hk))⟩
      · obtain ⟨j', S, q1, q2, q3⟩ := hRR i (by omega)
        exact ⟨j', S, by rw [hup i e]; exact q1, by rw [happ j' (r1 i j' q1)]; exact q2, cr_congr q3 (fun k hk => hcp1 i k (by omega) hk)⟩
    · rcases hRs s hs with q | ⟨j', S, q1, q2, q3⟩
      · exact Or.inl q
      · exact Or.inr ⟨j', S, q1, by rw [happ j' (hG s j' q1)]; exact q2, q3⟩
theorem cc_R_st (h : cc_R u N H G f n L M) {N' : cs_S} {f' : Nat → Int32} (q : cr N' f') : cc_R u N' H G f n L (cm_wst M f') := by
  obtain ⟨hok, hN, hrc, hRh, hRs, hRp, hpn⟩ := h
  exact ⟨hok, q, hrc, hRh, hRs, hRp, hpn⟩
theorem cc_R_w2 (h : cc_R u N H G f n L M) (td : Nat → Int32) (m : Int32) : cc_R u N H G f n L (cm_w2 M td m) := h
theorem cc_R_kp (h : cc_R u N H G f n L M) (kp : Nat → Int32) : cc_R u N H G f n L (M.1, kp, M.2.2) := h
end REL
