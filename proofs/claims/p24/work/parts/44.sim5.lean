/-! clauses that are read from the pad -/
theorem rd_ch {f pd : Nat → Int32} {N : Nat} (hp : cc_Rp f N pd) {k : Nat} (hk : k < N) : ∃ v, 33 ≤ v ∧ v ≤ 126 ∧ f k = nI v ∧ cm_ch pd N k = nI v := by
  obtain ⟨e, h1, h2⟩ := hp.2 k hk
  obtain ⟨v, a, b, c⟩ := cb_wi_nat (by omega) (by omega) (show cb_wi (f k) (nI 33) (nI 126) = true from decide_eq_true ⟨Int32.not_lt.mpr h1, Int32.not_lt.mpr h2⟩)
  refine ⟨v, a, b, c, ?_⟩
  unfold cm_ch
  rw [if_pos hk, ← e, c]
theorem rd_end (pd : Nat → Int32) {N k : Nat} (hk : ¬ k < N) : cm_ch pd N k = -nI 1 := if_neg hk
theorem rd_v : ∀ L, L < 10 → ∀ v, v < 127 → 33 ≤ v → ((nI v - nI 48 ≤ nI L ↔ v ≤ 48 + L) ∧ (nI v - nI 48 ≤ nI 9 ↔ v ≤ 57) ∧ cb_wi (nI v - nI 48) (nI L + nI 1) (nI 9) = decide (48 + L < v ∧ v ≤ 57)) := by decide +kernel
theorem rd_v2 : ∀ v, v < 127 → cp_dg (nI v) = decide (49 ≤ v ∧ v ≤ 57) := by decide +kernel
theorem rd_v1 : ∀ L, L < 10 → cb_wi (-nI 1 - nI 48) (nI L + nI 1) (nI 9) = false := by decide +kernel
theorem rd_d : ∀ d, d < 10 → nI (48 + d) - nI 48 = nI d := by decide +kernel
/-- one digit, with or without a minus before it, and what comes behind it -/
def cm_f1 (ch : Nat → Int32) (N n a1 : Nat) (zb : Bool) (L c : Int32) (m : Nat) (td : Nat → Int32) : Int32 × (Nat → Int32) × Nat := if cb_wi (ch a1 - nI 48) (L + nI 1) (nI 9) then (
      if ch (a1 + 1) = nI 44 ∧ ch a1 - nI 48 < nI 9 then cm_ff ch N n (a1 + 2) (ch a1 - nI 48) (cm_cc c (ch a1 - nI 48) zb) m td
      else if a1 + 1 = N then (-nI 6, upd td m (cm_cc c (ch a1 - nI 48) zb), m + 1)
      else if ch (a1 + 1) = nI 59 then cm_ff ch N n (a1 + 2) (nI 0) (nI 0) (m + 1) (upd td m (cm_cc c (ch a1 - nI 48) zb))
      else (nI (a1 + 1), upd td m (cm_cc c (ch a1 - nI 48) zb), m + 1))
    else (nI a1, td, m)
theorem cm_ff_1 (ch : Nat → Int32) (N n a : Nat) (L c : Int32) (m : Nat) (td : Nat → Int32) : cm_ff ch N (n + 1) a L c m td = cm_f1 ch N n (a + (if ch a = nI 45 then 1 else 0)) (decide (ch a = nI 45)) L c m td := rfl
def rd_tl (td : Nat → Int32) : Nat → Nat → cs_S → cs_S
  | 0, _, S => S
  | n + 1, m, S => rd_tl td n (m + 1) (cs_tell S (td m))
def rd_P (L m r : Nat) (td : Nat → Int32) (X : Int32) (tl : cs_S → cs_S) (sc : Nat) (gt : Nat → Int32) (Y : Int32 × (Nat → Int32) × Nat) : Prop := Y.1 = X ∧ (X = -nI 6 → Y.2.2 = m + sc ∧ 1 ≤ sc ∧ 2 * sc ≤ r + 1 ∧ (∀ k, k < m → Y.2.1 k = td k) ∧ (∀ S, tl S = rd_tl Y.2.1 sc m S) ∧ (∀ k, m ≤ k → k < m + sc → cr_c 9 (Y.2.1 k)) ∧ L ≤ cm_g1 (Y.2.1 m) ∧ ∀ g, L ≤ g → g ≤ 9 → ∃ G, G ≤ 9 ∧ gt g = nI G ∧ ∀ q, G ≤ q ↔ g ≤ q ∧ ∀ k, m ≤ k → k < m + sc → cm_g1 (Y.2.1 k) ≤ q)
def rd_main (f pd : Nat → Int32) (N fuel : Nat) : Prop := ∀ a L c m td r, a + r = N → N < a + 2 * fuel → L ≤ 9 → cr_c L c → rd_P L m r td (cp_ff f r a (nI L) false false) (fun S => cp_tl f r a c false S) (cp_sc f r a) (fun g => cp_gt f r a (nI g)) (cm_ff (cm_ch pd N) N fuel a (nI L) c m td)
theorem cm_cc_eq (c : Int32) {d : Nat} (hd : d < 10) (z : Bool) : cm_cc c (nI d) z = c ||| cb_set (nI (d + (if z then 10 else 0))) ∧ (c ||| cb_set (if z then cb_opp (nI d) else nI d)) = c ||| cb_set (nI (d + (if z then 10 else 0))) := by
  unfold cm_cc cb_set
  cases z
  · exact ⟨by rw [if_neg (fun q => by cases q), if_neg (fun q => by cases q), nI_add], by rw [if_neg (fun q => by cases q), if_neg (fun q => by cases q)]; rfl⟩
  · refine ⟨by rw [if_pos rfl, if_pos rfl, nI_add], ?_⟩
    rw [if_pos rfl, if_pos rfl, cb_opp_nI (by omega), show cr_op d = d + 10 from if_pos hd]
theorem cr_c_dig {L d : Nat} {c : Int32} (h : cr_c L c) (hd : L < d) (h9 : d ≤ 9) (z : Bool) : cr_c d (c ||| cb_set (nI (d + (if z then 10 else 0)))) ∧ cm_g1 (c ||| cb_set (nI (d + (if z then 10 else 0)))) = d := by
  obtain ⟨e, he, hz⟩ : ∃ e, e = d + (if z then 10 else 0) ∧ (e = d ∨ e = d + 10) := ⟨_, rfl, by cases z; exact Or.inl rfl; exact Or.inr rfl⟩
  rw [← he]
  have B : ∀ i, i < 32 → (bt (c ||| cb_set (nI e)) i = true ↔ bt c i = true ∨ i = e) := fun i hi => by
    rw [b_or, Bool.or_eq_true, cb_set_bt (by omega) hi, decide_eq_true_iff]
  refine ⟨⟨fun i hi hb => ?_, fun i h1 hi9 hb => ?_⟩, Nat.le_antisymm (cm_g1_le.mpr (fun x h1 hx9 hb => ?_)) ?_⟩
  · rcases (B i hi).mp hb with q | q
    · exact cr_sg_mono (by omega) (h.1 i hi q)
    · unfold cr_sg; omega
  · have b1 := (B i (by omega)).mp hb.1
    have b2 := (B (i + 10) (by omega)).mp hb.2
    rcases b1 with b1 | b1
    · rcases b2 with b2 | b2
      · exact h.2 i h1 hi9 ⟨b1, b2⟩
      · have := h.1 i (by omega) b1
        unfold cr_sg at this
        omega
    · rcases b2 with b2 | b2
      · have := h.1 (i + 10) (by omega) b2
        unfold cr_sg at this
        omega
      · omega
  · rcases hb with hb | hb
    · rcases (B x (by omega)).mp hb with q | q
      · have := h.1 x (by omega) q
        unfold cr_sg at this
        omega
      · omega
    · rcases (B (x + 10) (by omega)).mp hb with q | q
      · have := h.1 (x + 10) (by omega) q
        unfold cr_sg at this
        omega
      · omega
  · have := cm_g1_le.mp (Nat.le_refl (cm_g1 (c ||| cb_set (nI e)))) d (by omega) h9 (by
      rcases hz with q | q
      · exact Or.inl ((B d (by omega)).mpr (Or.inr q.symm))
      · exact Or.inr ((B (d + 10) (by omega)).mpr (Or.inr q.symm)))
    exact this
theorem cr_c0 : cr_c 0 (nI 0) := by
  have z : ∀ i, bt (nI 0) i = false := fun i => b_0 i
  exact ⟨fun i _ hb => (by rw [z i] at hb; cases hb), fun i _ _ hb => (by rw [z i] at hb; cases hb.1)⟩
theorem rd_fault {L m r : Nat} {td : Nat → Int32} {x : Nat} (hx : x ≤ 60) {X : Int32} (hX : X = nI x) {tl : cs_S → cs_S} {sc : Nat} {gt : Nat → Int32} {Y : Int32 × (Nat → Int32) × Nat} (hY : Y.1 = nI x) : rd_P L m r td X tl sc gt Y :=
  ⟨hY.trans hX.symm, fun q => absurd (hX.symm.trans q) (cb_nI6 x hx)⟩
theorem rd_dig {f pd : Nat → Int32} {N n : Nat} (hp : cc_Rp f N pd) (ih : rd_main f pd N n) {a1 r1 L m : Nat} {c : Int32} {td : Nat → Int32} {zb bm : Bool} (e : a1 + (r1 + 1) = N) (hf : N < a1 + 2 * (n + 1)) (hL : L ≤ 9) (hc : cr_c L c) (hb : bm = true ∨ f a1 ≠ nI 45) : rd_P L m (r1 + 1) td (cp_ff f (r1 + 1) a1 (nI L) false bm) (fun S => cp_tl f (r1 + 1) a1 c zb S) (cp_sc f (r1 + 1) a1) (fun g => cp_gt f (r1 + 1) a1 (nI g)) (cm_f1 (cm_ch pd N) N n a1 zb (nI L) c m td) := by
  have N60 := hp.1
  obtain ⟨w, w1, w2, ew, ec⟩ := rd_ch hp (k := a1) (by omega)
  have v := rd_v L (by omega) w (by omega) w1
  have X1 : cp_ff f (r1 + 1) a1 (nI L) false bm = if nI w - nI 48 ≤ nI L then nI a1 else if nI w - nI 48 ≤ nI 9 then cp_ff f r1 (a1 + 1) (nI w - nI 48) true false else nI a1 := by
    conv => lhs; unfold cp_ff
    rw [if_neg (fun q => hb.elim (fun z => by rw [z] at q; cases q.2) (fun z => z q.1)), ew]
  by_cases d : 48 + L < w ∧ w ≤ 57
  · obtain ⟨d0, rfl⟩ : ∃ d0, w = 48 + d0 := ⟨w - 48, by omega⟩
    have hd9 : d0 ≤ 9 := by omega
    have ed := rd_d d0 (by omega)
    rw [if_neg (fun q => by have := v.1.mp q; omega), if_pos (v.2.1.mpr d.2), ed] at X1
    have cc := cm_cc_eq c (d := d0) (by omega) zb
    obtain ⟨c', hc'⟩ : ∃ c', c' = c ||| cb_set (nI (d0 + (if zb then 10 else 0))) := ⟨_, rfl⟩
    rw [← hc'] at cc
    obtain ⟨cv, cg⟩ := cr_c_dig hc (show L < d0 by omega) hd9 zb
    rw [← hc'] at cv cg
    have T1 : ∀ S, cp_tl f (r1 + 1) a1 c zb S = cp_tl f r1 (a1 + 1) c' false S := fun S => by
      conv => lhs; unfold cp_tl
      rw [ew, rd_v2 _ (by omega), if_pos (decide_eq_true (by omega)), ed, cc.2, decide_eq_false (fun q => by have := (nI_eq (by omega) (by omega)).mp q; omega)]
    have S1 : cp_sc f (r1 + 1) a1 = cp_sc f r1 (a1 + 1) := by
      conv => lhs; unfold cp_sc
      rw [ew, if_neg (fun q => by have := (nI_eq (by omega) (by omega)).mp q; omega)]
      rfl
    have G1 : ∀ g, g ≤ 9 → cp_gt f (r1 + 1) a1 (nI g) = cp_gt f r1 (a1 + 1) (nI (max g d0)) := fun g hg => by
      conv => lhs; unfold cp_gt
      rw [ew, rd_v2 _ (by omega), if_pos (decide_eq_true (by omega)), ed]
      by_cases q : g < d0
      · rw [if_pos (nI_lt q (by omega)), Nat.max_eq_right (by omega)]
      · rw [if_neg (nI_nlt (by omega) (by omega)), Nat.max_eq_left (by omega)]
    have Y1 : cm_f1 (cm_ch pd N) N n a1 zb (nI L) c m td = if cm_ch pd N (a1 + 1) = nI 44 ∧ nI d0 < nI 9 then cm_ff (cm_ch pd N) N n (a1 + 2) (nI d0) c' m td else if a1 + 1 = N then (-nI 6, upd td m c', m + 1) else if cm_ch pd N (a1 + 1) = nI 59 then cm_ff (cm_ch pd N) N n (a1 + 2) (nI 0) (nI 0) (m + 1) (upd td m c') else (nI (a1 + 1), upd td m c', m + 1) := by
      unfold cm_f1
      rw [ec, v.2.2, if_pos (decide_eq_true d), ed, cc.1]
    match r1, e, X1, T1, S1, G1 with
    | 0, e, X1, T1, S1, G1 =>
      rw [rd_end pd (k := a1 + 1) (by omega), if_neg (fun q => by have := q.1; revert this; decide), if_pos (by omega)] at Y1
      rw [X1, Y1, S1]
      refine ⟨rfl, fun _ => ⟨rfl, Nat.le_refl _, by show 2 * 1 ≤ 0 + 1 + 1; omega, fun k hk => pk_un (by omega), fun S => ?_, fun k h1 h2 => ?_, ?_, fun g h1 h9 => ⟨max g d0, by omega, G1 g h9, fun q => ?_⟩⟩⟩
      · refine (T1 S).trans ?_
        show cs_tell S c' = cs_tell S (upd td m c' m)
        rw [pk_us]
      · obtain rfl : k = m := by have : k < m + 1 := h2; omega
        show cr_c 9 (upd td k c' k)
        rw [pk_us]
        exact ⟨fun i hi hb => cr_sg_mono hd9 (cv.1 i hi hb), cv.2⟩
      · show L ≤ cm_g1 (upd td m c' m)
        rw [pk_us, cg]
        omega
      · constructor
        · intro a
          refine ⟨by omega, fun k h1 h2 => ?_⟩
          obtain rfl : k = m := by have : k < m + 1 := h2; omega
          show cm_g1 (upd td k c' k) ≤ q
          rw [pk_us, cg]
          omega
        · rintro ⟨a1, a2⟩
          have := a2 m (Nat.le_refl _) (Nat.lt_succ_self m)
          rw [show (-nI 6, upd td m c', m + 1).2.1 m = c' from pk_us, cg] at this
          omega
    | r2 + 1, e, X1, T1, S1, G1 =>
      obtain ⟨x, x1, x2, ex, exc⟩ := rd_ch hp (k := a1 + 1) (by omega)
      have nd : ¬ (49 ≤ x ∧ x ≤ 57) → cp_dg (f (a1 + 1)) = false := fun q => by rw [ex, rd_v2 x (by omega)]; exact decide_eq_false q
      rw [exc, if_neg (show ¬ a1 + 1 = N by omega)] at Y1
      by_cases x44 : x = 44
      · subst x44
        have X2 : cp_ff f (r2 + 1) (a1 + 1) (nI d0) true false = if nI d0 = nI 9 then nI (a1 + 1) else cp_ff f r2 (a1 + 1 + 1) (nI d0) false false := by
          conv => lhs; unfold cp_ff
          rw [ex, if_neg (by decide), if_pos rfl]
        rw [X2] at X1
        by_cases d9 : d0 = 9
        · rw [if_pos (by rw [d9])] at X1
          rw [if_neg (fun q => by have := (nI_ltI (by omega) (by omega)).mp q.2; omega), if_neg (by decide)] at Y1
          exact rd_fault (x := a1 + 1) (by omega) X1 (by rw [Y1])
        · rw [if_neg (fun q => d9 ((nI_eq (by omega) (by omega)).mp q))] at X1
          rw [if_pos ⟨rfl, nI_lt (by omega) (by omega)⟩] at Y1
          have I := ih (a1 + 2) d0 c' m td r2 (by omega) (by omega) hd9 cv
          rw [X1, Y1, S1]
          have S2 : cp_sc f (r2 + 1) (a1 + 1) = cp_sc f r2 (a1 + 2) := by
            conv => lhs; unfold cp_sc
            rw [ex, if_neg (by decide)]
            rfl
          rw [S2]
          refine ⟨I.1, fun q => ?_⟩
          obtain ⟨i1, i2, i3, i4, i5, i6, i7, i8⟩ := I.2 q
          refine ⟨i1, i2, by omega, i4, fun S => ?_, i6, by omega, fun g h1 h9 => ?_⟩
          · refine (T1 S).trans (Eq.trans ?_ (i5 S))
            show cp_tl f (r2 + 1) (a1 + 1) c' false S = cp_tl f r2 (a1 + 2) c' false S
            conv => lhs; unfold cp_tl
            rw [nd (by omega), if_neg (fun q => by cases q), ex, if_neg (by decide)]
            rfl
          · obtain ⟨G', g1, g2, g3⟩ := i8 (max g d0) (by omega) (by omega)
            refine ⟨G', g1, ?_, fun q => (g3 q).trans ⟨fun z => ⟨by omega, z.2⟩, fun z => ⟨?_, z.2⟩⟩⟩
            · show cp_gt f (r2 + 1 + 1) a1 (nI g) = _
              rw [G1 g h9, ← g2]
              conv => lhs; unfold cp_gt
              rw [nd (by omega), if_neg (fun q => by cases q)]
            · have := z.2 m (Nat.le_refl _) (by omega)
              omega
      · rw [if_neg (fun q => x44 ((nI_eq (by omega) (by omega)).mp q.1))] at Y1
        by_cases x59 : x = 59
        · subst x59
          have X2 : cp_ff f (r2 + 1) (a1 + 1) (nI d0) true false = cp_ff f r2 (a1 + 1 + 1) (nI 0) false false := by
            conv => lhs; unfold cp_ff
            rw [ex, if_pos rfl]
          rw [X2] at X1
          rw [if_pos rfl] at Y1
          have I := ih (a1 + 2) 0 (nI 0) (m + 1) (upd td m c') r2 (by omega) (by omega) (by omega) cr_c0
          rw [X1, Y1, S1]
          have S2 : cp_sc f (r2 + 1) (a1 + 1) = cp_sc f r2 (a1 + 2) + 1 := by
            conv => lhs; unfold cp_sc
            rw [ex, if_pos rfl]
          rw [S2]
          refine ⟨I.1, fun q => ?_⟩
          obtain ⟨i1, i2, i3, i4, i5, i6, i7, i8⟩ := I.2 q
          have em := i4 m (Nat.lt_succ_self m)
          rw [pk_us] at em
          refine ⟨by omega, by omega, by omega, fun k hk => (i4 k (by omega)).trans (pk_un (by omega)), fun S => ?_, fun k h1 h2 => ?_, by rw [em, cg]; omega, fun g h1 h9 => ?_⟩
          · refine (T1 S).trans ?_
            conv => rhs; unfold rd_tl
            rw [em]
            refine Eq.trans ?_ (i5 (cs_tell S c'))
            show cp_tl f (r2 + 1) (a1 + 1) c' false S = cp_tl f r2 (a1 + 2) (nI 0) false (cs_tell S c')
            conv => lhs; unfold cp_tl
            rw [nd (by omega), if_neg (fun q => by cases q), ex, if_pos rfl]
            rfl
          · by_cases km : k = m
            · rw [km, em]
              exact ⟨fun i hi hb => cr_sg_mono hd9 (cv.1 i hi hb), cv.2⟩
            · exact i6 k (by omega) (by omega)
          · obtain ⟨G', g1, g2, g3⟩ := i8 (max g d0) (by omega) (by omega)
            refine ⟨G', g1, ?_, fun q => (g3 q).trans ⟨fun z => ⟨by omega, fun k h1 h2 => ?_⟩, fun z => ⟨?_, fun k h1 h2 => z.2 k (by omega) (by omega)⟩⟩⟩
            · show cp_gt f (r2 + 1 + 1) a1 (nI g) = _
              rw [G1 g h9, ← g2]
              conv => lhs; unfold cp_gt
              rw [nd (by omega), if_neg (fun q => by cases q)]
            · by_cases km : k = m
              · rw [km, em, cg]; omega
              · exact z.2 k (by omega) (by omega)
            · have := z.2 m (Nat.le_refl _) (by omega)
              rw [em, cg] at this
              omega
        · rw [if_neg (fun q => x59 ((nI_eq (by omega) (by omega)).mp q))] at Y1
          have X2 : cp_ff f (r2 + 1) (a1 + 1) (nI d0) true false = nI (a1 + 1) := by
            conv => lhs; unfold cp_ff
            rw [ex, if_neg (fun q => x59 ((nI_eq (by omega) (by omega)).mp q)), if_neg (fun q => x44 ((nI_eq (by omega) (by omega)).mp q))]
          exact rd_fault (x := a1 + 1) (by omega) (X1.trans X2) (by rw [Y1])
  · have X2 : cp_ff f (r1 + 1) a1 (nI L) false bm = nI a1 := by
      rw [X1]
      split
      · rfl
      · rename_i q
        rw [if_neg (fun z => d ⟨Nat.not_le.mp (fun y => q (v.1.mpr y)), v.2.1.mp z⟩)]
    refine rd_fault (x := a1) (by omega) X2 ?_
    unfold cm_f1
    rw [ec, v.2.2, decide_eq_false d]
    rfl
theorem rd_all {f pd : Nat → Int32} {N : Nat} (hp : cc_Rp f N pd) : ∀ fuel, rd_main f pd N fuel
  | 0 => fun a L c m td r e hf _ _ => absurd hf (by omega)
  | n + 1 => fun a L c m td r e hf hL hc => by
    have N60 := hp.1
    have ih := rd_all hp n
    rw [cm_ff_1]
    match r, e with
    | 0, e =>
      rw [rd_end pd (k := a) (by omega), if_neg (by decide)]
      refine rd_fault (x := a) (by omega) rfl ?_
      unfold cm_f1
      rw [rd_end pd (k := a + 0) (by omega), rd_v1 L (by omega)]
      rfl
    | r1 + 1, e =>
      obtain ⟨w, w1, w2, ew, ec⟩ := rd_ch hp (k := a) (by omega)
      by_cases q : w = 45
      · subst q
        rw [ec, if_pos rfl, decide_eq_true rfl]
        have X1 : cp_ff f (r1 + 1) a (nI L) false false = cp_ff f r1 (a + 1) (nI L) false true := by
          conv => lhs; unfold cp_ff
          rw [if_pos ⟨ew, rfl⟩]
        have T1 : (fun S => cp_tl f (r1 + 1) a c false S) = fun S => cp_tl f r1 (a + 1) c true S := funext fun S => by
          conv => lhs; unfold cp_tl
          rw [ew, rd_v2 45 (by omega), if_neg (by decide), if_neg (by decide)]
          rfl
        have S1 : cp_sc f (r1 + 1) a = cp_sc f r1 (a + 1) := by
          conv => lhs; unfold cp_sc
          rw [ew, if_neg (by decide)]
          rfl
        have G1 : (fun g => cp_gt f (r1 + 1) a (nI g)) = fun g => cp_gt f r1 (a + 1) (nI g) := funext fun g => by
          conv => lhs; unfold cp_gt
          rw [ew, rd_v2 45 (by omega), if_neg (by decide)]
        rw [X1, T1, S1, G1]
        match r1, e with
        | 0, e =>
          refine rd_fault (x := a + 1) (by omega) rfl ?_
          unfold cm_f1
          rw [rd_end pd (k := a + 1) (by omega), rd_v1 L (by omega)]
          rfl
        | r2 + 1, e =>
          have D := rd_dig hp ih (a1 := a + 1) (r1 := r2) (L := L) (m := m) (c := c) (td := td) (zb := true) (bm := true) (by omega) (by omega) hL hc (Or.inl rfl)
          refine ⟨D.1, fun z => ?_⟩
          obtain ⟨i1, i2, i3, i4⟩ := D.2 z
          exact ⟨i1, i2, by omega, i4⟩
      · have n45 : ¬ nI w = nI 45 := fun z => q ((nI_eq (by omega) (by omega)).mp z)
        rw [ec, if_neg n45, decide_eq_false n45]
        exact rd_dig hp ih (a1 := a) (r1 := r1) (L := L) (m := m) (c := c) (td := td) (zb := false) (bm := false) e (by omega) hL hc (Or.inr (by rw [ew]; exact n45))
theorem cp_hm_sc (f : Nat → Int32) : ∀ n i c, cp_hm f n i c + 1 = c + cp_sc f n i
  | 0, _, _ => rfl
  | n + 1, i, c => by
    unfold cp_hm cp_sc
    rw [cp_hm_sc f n (i + 1)]
    by_cases q : f i = nI 59
    · rw [if_pos q, if_pos q]; omega
    · rw [if_neg q, if_neg q]; omega
theorem cm_big_iff (td : Nat → Int32) {th : Nat} (h9 : th ≤ 9) : ∀ n k, cm_big td (nI th) n k = false ↔ ∀ j, k ≤ j → j < k + n → cm_g1 (td j) ≤ th
  | 0, k => ⟨fun _ j h1 h2 => absurd h2 (by omega), fun _ => rfl⟩
  | n + 1, k => by
    have g9 := cm_g1_9 (td k)
    unfold cm_big
    rw [cm_gi_1]
    by_cases q : th < cm_g1 (td k)
    · rw [if_pos (nI_lt q (by omega))]
      exact ⟨fun z => (by cases z), fun z => absurd (z k (Nat.le_refl _) (by omega)) (by omega)⟩
    · rw [if_neg (nI_nlt (by omega) (by omega)), cm_big_iff td h9 n (k + 1)]
      constructor
      · intro a j h1 h2
        by_cases e : j = k
        · rw [e]; omega
        · exact a j (by omega) (by omega)
      · intro a j h1 h2
        exact a j (by omega) (by omega)
theorem rd_tl_anew (td : Nat → Int32) : ∀ n m S, rd_tl td n m (cs_anew S) = cs_anew (rd_tl td n m S)
  | 0, _, _ => rfl
  | n + 1, m, S => rd_tl_anew td n (m + 1) (cs_tell S (td m))
theorem rd_tl_spec (td : Nat → Int32) : ∀ n m S, cs_to S = nI (cs_t S) → cs_t S + n ≤ 100 → (cs_to (rd_tl td n m S) = nI (cs_t S + n) ∧ cs_t (rd_tl td n m S) = cs_t S + n) ∧ (cs_th (rd_tl td n m S) = cs_th S ∧ cs_re (rd_tl td n m S) = cs_re S ∧ cs_fi (rd_tl td n m S) = cs_fi S) ∧ ∀ j, j < cs_t S + n → cs_cl (rd_tl td n m S) j = if j < cs_t S then cs_cl S j else td (m + (j - cs_t S))
  | 0, m, S, h, _ => ⟨⟨h, rfl⟩, ⟨rfl, rfl, rfl⟩, fun j hj => (if_pos hj).symm⟩
  | n + 1, m, S, h, h1 => by
    have eto : cs_to (cs_tell S (td m)) = nI (cs_t S + 1) := by
      show cs_to S + nI 1 = _
      rw [h, nI_add]
    have et : cs_t (cs_tell S (td m)) = cs_t S + 1 := by
      unfold cs_t
      rw [eto]
      exact nI_clamp (by have : cs_t S ≤ 100 := by omega
                         unfold cs_t at this
                         omega)
    obtain ⟨⟨a1, a2⟩, ⟨b1, b2, b3⟩, c⟩ := rd_tl_spec td n (m + 1) (cs_tell S (td m)) (by rw [et]; exact eto) (by omega)
    rw [et] at a1 a2 c
    unfold rd_tl
    refine ⟨⟨by rw [a1]; congr 1; omega, by omega⟩, ⟨b1, b2, b3⟩, fun j hj => ?_⟩
    rw [c j (by omega)]
    by_cases q : j < cs_t S
    · rw [if_pos (by omega), if_pos q]
      exact pk_un (show j ≠ cs_t S by omega)
    · rw [if_neg q]
      by_cases q2 : j = cs_t S
      · rw [if_pos (by omega), q2, Nat.sub_self]
        exact pk_us
      · rw [if_neg (by omega)]
        congr 1
        omega
section SIM
variable {l : Launch} {u : Nat} {N T : cs_S} {H G : Nat → Option Nat} {f : Nat → Int32} {n : Nat} {L : List cs_S} {M : cm_S}
theorem cp_c1_nI : ∀ k, k < 127 → cp_c1 (nI k) := by
  unfold cp_c1
  decide +kernel
theorem cR_c1 (hR : cc_R u N H G f n L M) : ∀ k, k < n → cp_c1 (f k) := by
  intro k hk
  obtain ⟨-, h1, h2⟩ := hR.2.2.2.2.2.1.2 k hk
  have h0 : ¬ f k < 0 := fun q => absurd (Int32.lt_of_le_of_lt h1 q) (by decide)
  obtain ⟨j, hj, e⟩ := nI_of h0
  rw [e] at h2 ⊢
  refine cp_c1_nI j ?_
  rcases Nat.lt_or_ge j 127 with q | q
  · exact q
  · exact absurd h2 (nI_ge (by omega) hj)
theorem cR_rd (hR : cc_R u N H G f n L M) : rd_P 0 0 n M.2.2.2.2.2.2.2.2.1 (cp_ff f n 0 (nI 0) false false) (fun S => cp_tl f n 0 (nI 0) false S) (cp_sc f n 0) (fun g => cp_gt f n 0 (nI g)) (cm_fr (cm_pd M) n M.2.2.2.2.2.2.2.2.1) := by
  have n60 := cR_n60 hR
  exact rd_all hR.2.2.2.2.2.1 31 0 0 (nI 0) 0 _ n (Nat.zero_add n) (by omega) (by omega) cr_c0
theorem cc_R_pl0 (hR : cc_R u N H G f n L M) : cc_R u N H G f 0 L (cm_wpl M (nI 0)) := by
  obtain ⟨hok, hN, hrc, hRh, hRs, hRp, hpn⟩ := hR
  exact ⟨hok, hN, hrc, hRh, hRs, ⟨Nat.zero_le _, fun k hk => absurd hk (Nat.not_lt_zero k)⟩, rfl⟩
end SIM
