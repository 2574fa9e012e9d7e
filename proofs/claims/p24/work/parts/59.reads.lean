/-! p24: clauses come -/
section OKR
variable {u : Nat} {N : cs_S} {H G : Nat → Option Nat} {L : List cs_S}
/-- the class's heap behind a recorded state -/
theorem cc_ok_rec (hok : cc_ok u H G L) : cc_ok (cm_ru u + 1) (cc_Hr u H L) G (cc_Lr u H L N) ∧ (cc_Lr u H L N).length ≤ L.length + 1 := by
  obtain ⟨r1, r2, r3, r4, r5⟩ := cc_rH_ok hok
  obtain ⟨hu, hH, hG, hun, hi, hg, hd⟩ := hok
  unfold cc_Hr cc_Lr cc_rHf cc_rL
  generalize hR : cc_rH u H = R at *
  generalize cm_ru u = v at *
  cases hv : R v with
  | some j =>
    refine ⟨⟨by omega, fun i j' q => ?_, fun i j' q => ?_, fun i q => ?_, r3, hg, r4⟩, by rw [List.length_set]; omega⟩
    · rw [List.length_set]; exact r1 i j' q
    · rw [List.length_set]; exact hG i j' q
    · by_cases e : i = v
      · exact ⟨j, by rw [e]; exact hv⟩
      · exact r2 i (by omega)
  | none =>
    have hup : ∀ i, i ≠ v → va_up R v (some L.length) i = R i := fun i q => if_neg q
    have hupv : va_up R v (some L.length) v = some L.length := if_pos rfl
    dsimp only
    refine ⟨⟨by omega, fun i j' q => ?_, fun i j' q => ?_, fun i q => ?_, fun i k j' q1 q2 => ?_, hg, fun i k j' q1 q2 => ?_⟩, by rw [List.length_append]; exact Nat.le_refl _⟩
    · rw [List.length_append]
      by_cases e : i = v
      · rw [e, hupv] at q; cases q; exact Nat.lt_succ_self _
      · rw [hup i e] at q
        exact Nat.lt_of_lt_of_le (r1 i j' q) (Nat.le_add_right _ _)
    · rw [List.length_append]
      exact Nat.lt_of_lt_of_le (hG i j' q) (Nat.le_add_right _ _)
    · by_cases e : i = v
      · exact ⟨_, by rw [e]; exact hupv⟩
      · rw [hup i e]; exact r2 i (by omega)
    · by_cases e1 : i = v
      · by_cases e2 : k = v
        · rw [e1, e2]
        · rw [e1, hupv] at q1
          rw [hup k e2] at q2
          cases q1
          exact absurd (r1 k _ q2) (Nat.lt_irrefl _)
      · by_cases e2 : k = v
        · rw [e2, hupv] at q2
          rw [hup i e1] at q1
          cases q2
          exact absurd (r1 i _ q1) (Nat.lt_irrefl _)
        · rw [hup i e1] at q1
          rw [hup k e2] at q2
          exact r3 i k j' q1 q2
    · by_cases e : i = v
      · rw [e, hupv] at q1
        cases q1
        exact absurd (hG k _ q2) (Nat.lt_irrefl _)
      · rw [hup i e] at q1
        exact r4 i k j' q1 q2
end OKR
section PXA
variable {l : Launch} {q on ze le re tr : Nat → Int32} {u u' : Int32} {N T N' T' : cs_S} {H G H' G' : Nat → Option Nat} {f f' : Nat → Int32} {pl pl' : Int32} {L L' : List cs_S}
theorem px_len {C : cw_H} : (px_h q on ze le re tr C).length = 6 + C.length := by
  unfold px_h
  rw [List.length_append, List.length_map]
  rfl
theorem px_wl {lv : cw_LV} (e : lv.all (fun q => cw_wfvb 15 q.2) = true) : ∀ x ∈ lv, cw_wfv (px_h q on ze le re tr (cc_h u N T H G f pl L)).length x.2 := by
  intro x hx
  have h1 := cw_wfvb_ok (List.all_eq_true.mp e x hx)
  rw [px_len, cc_len]
  cases hv : x.2 with
  | ref k => rw [hv] at h1; exact Nat.lt_of_lt_of_le h1 (by omega)
  | _ => trivial
theorem px_clsA {i : cw_I} {mc ms : Nat} {av : List Value} {r : Int32} (hM : cw_M l i mc ms av (cc_h u N T H G f pl L) (some (.int r)) (cc_h u' N' T' H' G' f' pl' L')) (hl : L.length ≤ L'.length) (hH : ∀ i j, H i = some j → j < L.length) (hG : ∀ i j, G i = some j → j < L.length) (hH' : ∀ i j, H' i = some j → j < L'.length) (hG' : ∀ i j, G' i = some j → j < L'.length) : cw_M l i mc ms (av.map (cw_v (fun k => 6 + k))) (px_h q on ze le re tr (cc_h u N T H G f pl L)) (some (.int r)) (px_h q on ze le re tr (cc_h u' N' T' H' G' f' pl' L')) :=
  cw_liftA hM (cc_lel hl) (pl_h q on ze le re tr) (b := 6) rfl (cc_wf (by rw [cc_len]; exact Nat.le_refl _) hH' hG') (cc_wf (by rw [cc_len]; exact Nat.le_refl _) hH hG) (fun x hx => cw_wfeb_ok (List.all_eq_true.mp (show (pl_h q on ze le re tr).all (cw_wfeb _) = true from rfl) x hx)) (fun v hv => by cases hv; trivial)
end PXA
/-- one sign more in a clause, both ways -/
theorem pd_sets {th t : Nat} {cur up down : Int32} (h9 : th ≤ 9) (h1 : 1 ≤ t) (ht : t ≤ th) (hp : pr_c cur up down) (hc : cr_c th cur) (hf : ∀ i, i < 32 → bt cur i = true → i % 10 < t) (z : Bool) :
    pr_c (cur ||| cb_set (nI (if z then t + 10 else t))) (up ||| (if z then nI 0 else nI 1 <<< (nI t &&& 31))) (down ||| (if z then nI 1 <<< (nI t &&& 31) else nI 0)) ∧ cr_c th (cur ||| cb_set (nI (if z then t + 10 else t))) ∧ (∀ i, i < 32 → bt (cur ||| cb_set (nI (if z then t + 10 else t))) i = true → i % 10 < t + 1) ∧ fb_ct (bt ((up ||| (if z then nI 0 else nI 1 <<< (nI t &&& 31))) ||| (down ||| (if z then nI 1 <<< (nI t &&& 31) else nI 0)))) 10 = fb_ct (bt (up ||| down)) 10 + 1 ∧ ¬ (cur ||| cb_set (nI (if z then t + 10 else t))) = 0 := by
  obtain ⟨s, hs, hs10, hsz⟩ : ∃ s, (if z then t + 10 else t) = s ∧ s % 10 = t ∧ (z = true ∧ s = t + 10 ∨ z = false ∧ s = t) := by
    cases z with
    | true => exact ⟨_, rfl, by show (t + 10) % 10 = t; omega, Or.inl ⟨rfl, rfl⟩⟩
    | false => exact ⟨_, rfl, by show t % 10 = t; omega, Or.inr ⟨rfl, rfl⟩⟩
  rw [hs]
  have s32 : s < 32 := by rcases hsz with ⟨-, e⟩ | ⟨-, e⟩ <;> omega
  have hset : ∀ i, i < 32 → bt (cb_set (nI s)) i = decide (i = s) := fun i hi => cb_set_bt s32 hi
  have hssg : cr_sg th s := by
    unfold cr_sg
    rcases hsz with ⟨-, e⟩ | ⟨-, e⟩ <;> omega
  have z0 : ∀ i, bt (nI 0) i = false := fun i => b_0 i
  have hone : ∀ i, i < 32 → bt (nI 1 <<< (nI t &&& 31)) i = decide (i = t) := fun i hi => cb_one (by omega) hi
  have hbt : ∀ i, i < 32 → (bt (cur ||| cb_set (nI s)) i = true ↔ bt cur i = true ∨ i = s) := fun i hi => by
    rw [b_or, Bool.or_eq_true, hset i hi, decide_eq_true_eq]
  have cbig : ∀ i, 20 ≤ i → i < 32 → bt cur i = false := fun i h1 h2 => by
    cases w : bt cur i with
    | false => rfl
    | true => have := cr_sg9 h9 (hc.1 i h2 w); omega
  have nob : ∀ i, i < 32 → i % 10 = t → bt cur i = false := fun i hi e => by
    cases w : bt cur i with
    | false => rfl
    | true => have := hf i hi w; omega
  refine ⟨fun i hi => ⟨?_, ?_⟩, ⟨fun i hi w => ?_, fun i i1 i9 => ?_⟩, fun i hi w => ?_, ?_, fun w => ?_⟩
  · rw [hbt i hi, b_or, Bool.or_eq_true, (hp i hi).1]
    rcases hsz with ⟨rfl, e⟩ | ⟨rfl, e⟩
    · rw [if_pos rfl, z0]
      constructor
      · rintro (w | w)
        · exact ⟨w.1, Or.inl w.2⟩
        · cases w
      · rintro ⟨w1, w2 | w2⟩
        · exact Or.inl ⟨w1, w2⟩
        · omega
    · rw [if_neg (by decide), hone i hi, decide_eq_true_eq]
      constructor
      · rintro (w | w)
        · exact ⟨w.1, Or.inl w.2⟩
        · exact ⟨by omega, Or.inr (by omega)⟩
      · rintro ⟨w1, w2 | w2⟩
        · exact Or.inl ⟨w1, w2⟩
        · exact Or.inr (by omega)
  · rw [b_or, Bool.or_eq_true, (hp i hi).2]
    have hb2 : bt (cur ||| cb_set (nI s)) (i + 10) = true ↔ bt cur (i + 10) = true ∨ i + 10 = s := by
      rcases Nat.lt_or_ge (i + 10) 32 with w | w
      · exact hbt _ w
      · rw [b_big w, b_big w]
        constructor
        · intro x; cases x
        · rintro (x | x)
          · cases x
          · omega
    rw [hb2]
    rcases hsz with ⟨rfl, e⟩ | ⟨rfl, e⟩
    · rw [if_pos rfl, hone i hi, decide_eq_true_eq]
      constructor
      · rintro (w | w)
        · exact Or.inl w
        · exact Or.inr (by omega)
      · rintro (w | w)
        · exact Or.inl w
        · exact Or.inr (by omega)
    · rw [if_neg (by decide), z0]
      constructor
      · rintro (w | w)
        · exact Or.inl w
        · cases w
      · rintro (w | w)
        · exact Or.inl w
        · omega
  · rcases (hbt i hi).mp w with x | x
    · exact hc.1 i hi x
    · rw [x]; exact hssg
  · rintro ⟨w1, w2⟩
    rcases (hbt i (by omega)).mp w1 with x | x
    · rcases (hbt (i + 10) (by omega)).mp w2 with y | y
      · exact hc.2 i i1 i9 ⟨x, y⟩
      · rw [nob i (by omega) (by omega)] at x; cases x
    · rcases (hbt (i + 10) (by omega)).mp w2 with y | y
      · rw [nob (i + 10) (by omega) (by omega)] at y; cases y
      · omega
  · rcases (hbt i hi).mp w with x | x
    · have := hf i hi x; omega
    · omega
  · have hud : ∀ i, i < 32 → bt (up ||| down) i = true → i = t → False := fun i hi w e => by
      rw [b_or, Bool.or_eq_true, (hp i hi).1, (hp i hi).2] at w
      rcases w with w | w
      · rw [nob i hi (by omega)] at w; cases w.2
      · rw [nob (i + 10) (by omega) (by omega)] at w; cases w
    have pt : bt (up ||| down) t = false := by
      cases w : bt (up ||| down) t with
      | false => rfl
      | true => exact (hud t (by omega) w rfl).elim
    have e := fb_ct_upd (bt (up ||| down)) true (i := t) (n := 10) (by omega)
    rw [pt] at e
    have e2 : fb_ct (bt ((up ||| (if z then nI 0 else nI 1 <<< (nI t &&& 31))) ||| (down ||| (if z then nI 1 <<< (nI t &&& 31) else nI 0)))) 10 = fb_ct (fun k => if k = t then true else bt (up ||| down) k) 10 := fb_ct_cong (fun k hk => by
      rw [b_or, b_or, b_or, b_or]
      rcases hsz with ⟨rfl, -⟩ | ⟨rfl, -⟩
      · rw [if_pos rfl, if_pos rfl, z0, hone k (by omega)]
        by_cases w : k = t
        · rw [if_pos w, decide_eq_true w, Bool.or_true, Bool.or_true]
        · rw [if_neg w, decide_eq_false w, Bool.or_false, Bool.or_false]
      · rw [if_neg (by decide), if_neg (by decide), z0, hone k (by omega)]
        by_cases w : k = t
        · rw [if_pos w, decide_eq_true w, Bool.or_true, Bool.true_or]
        · rw [if_neg w, decide_eq_false w, Bool.or_false, Bool.or_false])
    rw [e2]
    simp only [reduceIte] at e
    have zz : (if false = true then 1 else 0) = 0 := rfl
    omega
  · have := (hbt s s32).mpr (Or.inr rfl)
    rw [w, b_0] at this
    cases this
