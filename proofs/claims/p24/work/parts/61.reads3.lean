/-! p24: one clause written, and all of them -/
section PD
variable {l : Launch} {q on ze le re tr : Nat → Int32} {u : Int32} {S T : cs_S} {H G : Nat → Option Nat} {L : List cs_S} {h0 : cw_H} {Good : cw_H → Prop}
theorem pd_loop {th c : Nat} (hth : q 0 = nI th) (h9 : th ≤ 9) (hc2 : c ≤ 2) {zz x y mm : Int32} {tl : cs_S → cs_S} (K : ∀ f len cur up down, pd_I th c (th + 1) len f cur up down tl → ¬ cur = 0 → pq_W l h0 Good 241 ((14, .int (nI (th + 1))) :: (13, .int down) :: (12, .int up) :: (11, .int zz) :: (10, .int (nI c)) :: (9, .int mm) :: pl_P x y) (pd_X q on ze le re tr u S T H G L f len)) : ∀ n t f len cur up down, t + n = th + 1 → 1 ≤ t → pd_I th c t len f cur up down tl → (t = th + 1 → ¬ cur = 0) → pq_W l h0 Good 82 ((14, .int (nI t)) :: (13, .int down) :: (12, .int up) :: (11, .int zz) :: (10, .int (nI c)) :: (9, .int mm) :: pl_P x y) (pd_X q on ze le re tr u S T H G L f len) := by
  intro n
  induction n with
  | zero =>
    intro t f len cur up down ht h1 hI hz
    obtain rfl : t = th + 1 := by omega
    obtain ⟨hf, hg, w⟩ := K f len cur up down hI (hz rfl)
    exact ⟨hf, hg, cw_run cw_kL_reads cw_z 5 [true] [_] [] (And.intro (rfl) (And.intro (Nat.le_of_ble_eq_true rfl) (And.intro ((show q 0 < nI (th + 1) by rw [hth]; exact nI_lt (by omega) (by omega))) (w))))⟩
  | succ n ih =>
    intro t f len cur up down ht h1 hI hz
    have tk : t ≤ th := by omega
    have m0 : ¬ q 0 < nI t := by rw [hth]; exact nI_nlt (by omega) (by omega)
    have hI0 := hI
    obtain ⟨a1, a2, a3, a4, a5, a6, g, Ld, b1, b2, b3⟩ := hI
    have ez := pd_zero h9 a1 a2
    have ehi := pd_hi h9 a1 a2
    obtain ⟨r1, hr1, er1⟩ := pl_low_nI (zz >>> (nI t &&& 31)) (n := 5) (by omega) (by omega)
    obtain ⟨r2, hr2, er2⟩ := pl_low_nI zz (n := 2) (by omega) (by omega)
    have w5 := pl_low_ok l (pd_X q on ze le re tr u S T H G L f len) (zz >>> (nI t &&& 31)) (n := 5) (by omega) (by omega)
    have w2 := pl_low_ok l (pd_X q on ze le re tr u S T H G L f len) zz (n := 2) (by omega) (by omega)
    rw [er1] at w5
    rw [er2] at w2
    obtain ⟨kd, hk5, hkd, s125⟩ : ∃ kd, kd < 5 ∧ (t = th → cur = 0 → kd ≤ 1) ∧ ∀ hf : cw_H, cw_W l mm_L_reads 5 101 h0 (some (.int (nI 1))) hf 0 0 125 ((15, .int (nI kd)) :: (14, .int (nI t)) :: (13, .int down) :: (12, .int up) :: (11, .int zz) :: (10, .int (nI c)) :: (9, .int mm) :: pl_P x y) [] (pd_X q on ze le re tr u S T H G L f len) → cw_W l mm_L_reads 5 101 h0 (some (.int (nI 1))) hf 0 0 82 ((14, .int (nI t)) :: (13, .int down) :: (12, .int up) :: (11, .int zz) :: (10, .int (nI c)) :: (9, .int mm) :: pl_P x y) [] (pd_X q on ze le re tr u S T H G L f len) := by
      by_cases e1 : t = th
      · by_cases e2 : cur = 0
        · exact ⟨r2, by omega, fun _ _ => by omega, fun hf w => cw_run cw_kL_reads cw_z 24 [false, false, false] [_, _] [(_, _), (_, _)] (And.intro (rfl) (And.intro (Nat.le_of_ble_eq_true rfl) (And.intro (m0) (And.intro (w5) (And.intro (Nat.le_refl _) (And.intro (rfl) (And.intro (Nat.le_of_ble_eq_true rfl) (And.intro ((show ¬ ¬ nI t = q 0 from fun z => z (by rw [hth, e1]))) (And.intro ((show ¬ ¬ (up ||| down) = 0 from fun z => z (ez.mpr e2))) (And.intro (w2) (And.intro (Nat.le_refl _) (w))))))))))))⟩
        · exact ⟨r1, hr1, fun _ z => absurd z e2, fun hf w => cw_run cw_kL_reads cw_z 20 [false, false, true] [_, _] [(_, _)] (And.intro (rfl) (And.intro (Nat.le_of_ble_eq_true rfl) (And.intro (m0) (And.intro (w5) (And.intro (Nat.le_refl _) (And.intro (rfl) (And.intro (Nat.le_of_ble_eq_true rfl) (And.intro ((show ¬ ¬ nI t = q 0 from fun z => z (by rw [hth, e1]))) (And.intro ((show ¬ (up ||| down) = 0 from fun z => e2 (ez.mp z))) (w))))))))))⟩
      · exact ⟨r1, hr1, fun z => absurd z e1, fun hf w => cw_run cw_kL_reads cw_z 16 [false, true] [_, _] [(_, _)] (And.intro (rfl) (And.intro (Nat.le_of_ble_eq_true rfl) (And.intro (m0) (And.intro (w5) (And.intro (Nat.le_refl _) (And.intro (rfl) (And.intro (Nat.le_of_ble_eq_true rfl) (And.intro ((show ¬ nI t = q 0 from fun z => e1 ((nI_eq (by omega) (by omega)).mp (z.trans hth)))) (w)))))))))⟩
    by_cases k1 : 1 < kd
    · -- not taken
      obtain ⟨hf, hg, w⟩ := ih (t + 1) f len cur up down (by omega) (by omega) (pd_mono hI0) (fun e z => by have := hkd (by omega) z; omega)
      rw [← nI_add t 1] at w
      exact ⟨hf, hg, s125 hf (cw_run cw_kL_reads cw_z 5 [true] [] [] (And.intro (nI_lt k1 (by omega)) (cw_less [0, 2, 3, 4, 5, 6, 7, 8, 9, 10, 11, 12, 13, 14, 15] rfl w)))⟩
    · have k0 : ¬ nI 1 < nI kd := nI_nlt (by omega) (by omega)
      have wb := pl_bits l (pd_X q on ze le re tr u S T H G L f len) ehi
      by_cases k4 : fb_ct (bt (up ||| down)) 10 = 4
      · -- enough signs
        obtain ⟨hf, hg, w⟩ := ih (t + 1) f len cur up down (by omega) (by omega) (pd_mono hI0) (fun e z => by
          have e0 := ez.mpr z
          rw [e0, fb_ct_zero.mpr (fun k _ => b_0 k)] at k4
          omega)
        rw [← nI_add t 1] at w
        rw [k4] at wb
        exact ⟨hf, hg, s125 hf (cw_run cw_kL_reads cw_z 12 [false, false] [] [(_, _)] (And.intro (k0) (And.intro (wb) (And.intro (Nat.le_refl _) (And.intro ((show ¬ ¬ nI 4 = nI 4 from fun z => z rfl)) (cw_less [0, 2, 3, 4, 5, 6, 7, 8, 9, 10, 11, 12, 13, 14, 15] rfl w))))))⟩
      · have n4 : ¬ nI (fb_ct (bt (up ||| down)) 10) = nI 4 := fun z => k4 ((nI_eq (by omega) (by omega)).mp z)
        have g9 : g ≤ 9 := by omega
        have s146 : ∀ hf : cw_H, cw_W l mm_L_reads 5 101 h0 (some (.int (nI 1))) hf 0 0 146 ((15, .int (nI kd)) :: (14, .int (nI t)) :: (13, .int down) :: (12, .int up) :: (11, .int zz) :: (10, .int (nI c)) :: (9, .int mm) :: pl_P x y) [] (pd_X q on ze le re tr u S T H G L f len) → cw_W l mm_L_reads 5 101 h0 (some (.int (nI 1))) hf 0 0 82 ((14, .int (nI t)) :: (13, .int down) :: (12, .int up) :: (11, .int zz) :: (10, .int (nI c)) :: (9, .int mm) :: pl_P x y) [] (pd_X q on ze le re tr u S T H G L f len) := fun hf w => s125 hf (cw_run cw_kL_reads cw_z 9 [false, true] [] [(_, _)] (And.intro (k0) (And.intro (wb) (And.intro (Nat.le_refl _) (And.intro (n4) (w))))))
        by_cases e2 : cur = 0
        · have eud := ez.mpr e2
          rw [decide_eq_false (fun z => z e2)] at b3
          by_cases kk : kd = 1
          · have p2 := pt_digit (pt_minus b3) h1 (show t ≤ 9 by omega) b2 g9
            have hI2 := pd_new h9 h1 tk a1 a2 a3 a4 k4 a5 true (show len + 1 + 1 ≤ len + 3 by omega) (pd_chr (pd_chr a6 (by omega)) (by omega)) b1 p2
            obtain ⟨hf, hg, w⟩ := ih (t + 1) _ _ _ _ _ (by omega) (by omega) hI2 (fun _ => (pd_sets h9 h1 tk a1 a2 a3 true).2.2.2.2)
            rw [← nI_add t 1] at w
            subst kk
            exact ⟨hf, hg, s146 hf (pd_w1z (by omega) h1 (by omega) eud w)⟩
          · obtain rfl : kd = 0 := by omega
            have p2 := pt_digit b3 h1 (show t ≤ 9 by omega) b2 g9
            have hI2 := pd_new h9 h1 tk a1 a2 a3 a4 k4 a5 false (show len + 1 ≤ len + 3 by omega) (pd_chr a6 (by omega)) b1 p2
            obtain ⟨hf, hg, w⟩ := ih (t + 1) _ _ _ _ _ (by omega) (by omega) hI2 (fun _ => (pd_sets h9 h1 tk a1 a2 a3 false).2.2.2.2)
            rw [← nI_add t 1] at w
            exact ⟨hf, hg, s146 hf (pd_w0z (by omega) h1 (by omega) eud w)⟩
        · have eud : ¬ (up ||| down) = 0 := fun z => e2 (ez.mp z)
          rw [decide_eq_true e2] at b3
          have p1 := pt_comma b3 (show Ld < 9 by omega)
          by_cases kk : kd = 1
          · have p2 := pt_digit (pt_minus p1) h1 (show t ≤ 9 by omega) b2 g9
            have hI2 := pd_new h9 h1 tk a1 a2 a3 a4 k4 a5 true (show len + 1 + 1 + 1 ≤ len + 3 by omega) (pd_chr (pd_chr (pd_chr a6 (by omega)) (by omega)) (by omega)) b1 p2
            obtain ⟨hf, hg, w⟩ := ih (t + 1) _ _ _ _ _ (by omega) (by omega) hI2 (fun _ => (pd_sets h9 h1 tk a1 a2 a3 true).2.2.2.2)
            rw [← nI_add t 1] at w
            subst kk
            exact ⟨hf, hg, s146 hf (pd_w1n (by omega) h1 (by omega) eud w)⟩
          · obtain rfl : kd = 0 := by omega
            have p2 := pt_digit p1 h1 (show t ≤ 9 by omega) b2 g9
            have hI2 := pd_new h9 h1 tk a1 a2 a3 a4 k4 a5 false (show len + 1 + 1 ≤ len + 3 by omega) (pd_chr (pd_chr a6 (by omega)) (by omega)) b1 p2
            obtain ⟨hf, hg, w⟩ := ih (t + 1) _ _ _ _ _ (by omega) (by omega) hI2 (fun _ => (pd_sets h9 h1 tk a1 a2 a3 false).2.2.2.2)
            rw [← nI_add t 1] at w
            exact ⟨hf, hg, s146 hf (pd_w0n (by omega) h1 (by omega) eud w)⟩
end PD
theorem rd_tl_snoc (td : Nat → Int32) : ∀ n m S, rd_tl td (n + 1) m S = cs_tell (rd_tl td n m S) (td (m + n))
  | 0, m, S => rfl
  | n + 1, m, S => by
    show rd_tl td (n + 1) (m + 1) (cs_tell S (td m)) = _
    rw [rd_tl_snoc td n (m + 1), show m + 1 + n = m + (n + 1) by omega]
    rfl
theorem rd_tl_cong {td td' : Nat → Int32} : ∀ n m S, (∀ i, m ≤ i → i < m + n → td' i = td i) → rd_tl td' n m S = rd_tl td n m S
  | 0, _, _, _ => rfl
  | n + 1, m, S, h => by
    show rd_tl td' n (m + 1) (cs_tell S (td' m)) = rd_tl td n (m + 1) (cs_tell S (td m))
    rw [h m (Nat.le_refl _) (by omega)]
    exact rd_tl_cong n (m + 1) _ (fun i h1 h2 => h i (by omega) (by omega))
/-- c clauses are written: their text, the law's rows -/
def pe_I (th t0 c len : Nat) (f on ze on' ze' : Nat → Int32) (cls : Nat → Int32) : Prop := len ≤ 13 * c ∧ (∀ k, k < len → cp_c1 (f k)) ∧ (∀ k, k < t0 → on' k = on k ∧ ze' k = ze k) ∧ (∀ i, i < c → pr_c (cls i) (on' (t0 + i)) (ze' (t0 + i)) ∧ cr_c th (cls i)) ∧ (c = 0 → len = 0) ∧ ∀ d, c = d + 1 → ∃ g L, g ≤ th ∧ L ≤ 9 ∧ pt_S f len L true false (cls d) false g (rd_tl cls d 0) c
section PE
variable {l : Launch} {q on ze le re tr : Nat → Int32} {u : Int32} {S T : cs_S} {H G : Nat → Option Nat} {L : List cs_S} {h0 : cw_H} {Good : cw_H → Prop}
theorem pe_step {th t0 c len len2 : Nat} {f f2 on' ze' : Nat → Int32} {cls : Nat → Int32} {cur up down : Int32} (h9 : th ≤ 9) (hI : pe_I th t0 c len f on ze on' ze' cls) {tl : cs_S → cs_S} (htl : ∀ S, tl S = rd_tl cls c 0 S) (hD : pd_I th c (th + 1) len2 f2 cur up down tl) (hn : ¬ cur = 0) : pe_I th t0 (c + 1) len2 f2 on ze (upd on' (t0 + c) up) (upd ze' (t0 + c) down) (fun i => if i = c then cur else cls i) := by
  obtain ⟨b1, b2, b3, b4, b5, b6, g, Ld, c1, c2, c3⟩ := hD
  obtain ⟨a1, a2, a3, a4, a5, a6⟩ := hI
  rw [decide_eq_true hn] at c3
  refine ⟨by omega, b6, fun k hk => ?_, fun i hi => ?_, fun z => by omega, fun d hd => ⟨g, Ld, c1, by omega, ?_⟩⟩
  · rw [pk_un (by omega), pk_un (by omega)]; exact a3 k hk
  · by_cases e : i = c
    · subst e
      dsimp only
      rw [pk_us, pk_us, if_pos rfl]; exact ⟨b1, b2⟩
    · dsimp only
      rw [pk_un (by omega), pk_un (by omega), if_neg e]; exact a4 i (by omega)
  · obtain rfl : d = c := by omega
    dsimp only
    rw [if_pos rfl]
    have e : (rd_tl (fun i => if i = d then cur else cls i) d 0) = tl := by
      funext S
      rw [htl, rd_tl_cong d 0 S (fun i h1 h2 => if_neg (by omega))]
    rw [e]
    exact c3
set_option maxRecDepth 10000 in
theorem pe_loop {th t0 many : Nat} (hth : q 0 = nI th) (h9 : th ≤ 9) (th1 : 1 ≤ th) (hm : many ≤ 3) (h3 : q 3 = nI t0) (ht0 : t0 ≤ 20) {x y : Int32} (K : ∀ f len on' ze' cls, pe_I th t0 many len f on ze on' ze' cls → pq_W l h0 Good 269 ((10, .int (nI many)) :: (9, .int (nI many)) :: pl_P x y) (pd_X q on' ze' le re tr u S T H G L f len)) : ∀ n c f len on' ze' cls, c + n = many → pe_I th t0 c len f on ze on' ze' cls → pq_W l h0 Good 30 ((10, .int (nI c)) :: (9, .int (nI many)) :: pl_P x y) (pd_X q on' ze' le re tr u S T H G L f len) := by
  intro n
  induction n with
  | zero =>
    intro c f len on' ze' cls hc hI
    obtain rfl : c = many := by omega
    obtain ⟨hf, hg, w⟩ := K f len on' ze' cls hI
    exact ⟨hf, hg, cw_run cw_kL_reads cw_z 3 [true] [] [] (And.intro (Int32.le_refl _) (w))⟩
  | succ n ih =>
    intro c f len on' ze' cls hc hI
    have m0 : ¬ nI many ≤ nI c := nI_ge (by omega) (by omega)
    have hI0 := hI
    obtain ⟨a1, a2, a3, a4, a5, a6⟩ := hI
    obtain ⟨zz, s61⟩ : ∃ zz : Int32, ∀ hf : cw_H, cw_W l mm_L_reads 5 101 h0 (some (.int (nI 1))) hf 0 0 61 ((13, .int (nI 0)) :: (12, .int (nI 0)) :: (11, .int zz) :: (10, .int (nI c)) :: (9, .int (nI many)) :: pl_P x y) [] (pd_X q on' ze' le re tr u S T H G L f len) → cw_W l mm_L_reads 5 101 h0 (some (.int (nI 1))) hf 0 0 30 ((10, .int (nI c)) :: (9, .int (nI many)) :: pl_P x y) [] (pd_X q on' ze' le re tr u S T H G L f len) := by
      by_cases e : c = 1
      · exact ⟨y, fun hf w => cw_run cw_kL_reads cw_z 13 [false, false] [] [] (And.intro (m0) (And.intro ((show ¬ ¬ nI c = nI 1 from fun z => z (by rw [e]))) (w)))⟩
      · exact ⟨x >>> ((nI 4 * nI c) &&& 31), fun hf w => cw_run cw_kL_reads cw_z 16 [false, true] [] [] (And.intro (m0) (And.intro ((show ¬ nI c = nI 1 from fun z => e ((nI_eq (by omega) (by omega)).mp z))) (w)))⟩
    -- behind a clause
    have tail : ∀ {tl : cs_S → cs_S}, (∀ S, tl S = rd_tl cls c 0 S) → ∀ f2 len2 cur up down, pd_I th c (th + 1) len2 f2 cur up down tl → ¬ cur = 0 → pq_W l h0 Good 241 ((14, .int (nI (th + 1))) :: (13, .int down) :: (12, .int up) :: (11, .int zz) :: (10, .int (nI c)) :: (9, .int (nI many)) :: pl_P x y) (pd_X q on' ze' le re tr u S T H G L f2 len2) := by
      intro tl htl f2 len2 cur up down hD hn
      obtain ⟨hf, hg, w⟩ := ih (c + 1) f2 len2 _ _ _ (by omega) (pe_step h9 hI0 htl hD hn)
      rw [← nI_add c 1] at w
      have ei : q 3 + nI c = nI (t0 + c) := by rw [h3, nI_add]
      exact ⟨hf, hg, cw_run cw_kL_reads cw_z 18 [] [_, _, _, _] [] (And.intro (rfl) (And.intro (Nat.le_of_ble_eq_true rfl) (And.intro (ei) (And.intro ((show t0 + c < 61 by omega)) (And.intro (rfl) (And.intro (Nat.le_of_ble_eq_true rfl) (And.intro (ei) (And.intro ((show t0 + c < 61 by omega)) (cw_less [0, 5, 6, 7, 8, 9, 10, 11, 12, 13, 14] rfl w)))))))))⟩
    have zb : ∀ i, ¬ bt (nI 0) i = true := fun i w => by
      rw [show nI 0 = (0 : Int32) from rfl, b_0] at w
      cases w
    have pz : pr_c (nI 0) (nI 0) (nI 0) := fun i hi => ⟨⟨fun w => absurd w (zb _), fun w => absurd w.2 (zb _)⟩, ⟨fun w => absurd w (zb _), fun w => absurd w (zb _)⟩⟩
    have cz : cr_c th (nI 0) := ⟨fun i hi w => absurd w (zb _), fun i _ _ w => absurd w.1 (zb _)⟩
    have lz : ∀ i, i < 32 → bt (nI 0) i = true → i % 10 < 1 := fun i hi w => absurd w (zb _)
    have fz : fb_ct (bt (nI 0 ||| nI 0)) 10 = 0 := fb_ct_zero.mpr (fun k _ => b_0 k)
    match c, a5, a6 with
    | 0, a5, a6 =>
      have l0 := a5 rfl
      subst l0
      have hD : pd_I th 0 1 0 f (nI 0) (nI 0) (nI 0) (fun S => S) := by
        refine ⟨pz, cz, lz, by omega, by omega, a2, 0, 0, by omega, by omega, ?_⟩
        rw [decide_eq_false (show ¬ ¬ nI 0 = (0 : Int32) from fun z => z rfl)]
        exact pt_0 f
      obtain ⟨hf, hg, w⟩ := pd_loop (l := l) (on := on') (ze := ze') (le := le) (re := re) (tr := tr) (u := u) (S := S) (T := T) (H := H) (G := G) (L := L) (x := x) (y := y) (zz := zz) (mm := nI many) hth h9 (by omega) (tail (tl := fun S => S) (fun _ => rfl)) th 1 f 0 (nI 0) (nI 0) (nI 0) (by omega) (by omega) hD (fun z => by omega)
      exact ⟨hf, hg, s61 hf (cw_run cw_kL_reads cw_z 4 [true] [] [] (And.intro ((show nI 0 ≤ 0 by decide)) (w)))⟩
    | d + 1, a5, a6 =>
      obtain ⟨g, Lg, g1, g2, g3⟩ := a6 d rfl
      have p := pt_semi g3
      have hD : pd_I th (d + 1) 1 (len + 1) (upd f len (nI 59)) (nI 0) (nI 0) (nI 0) (fun S => cs_tell (rd_tl cls d 0 S) (cls d)) := by
        refine ⟨pz, cz, lz, by omega, by omega, pd_chr a2 (by omega), g, 0, g1, by omega, ?_⟩
        rw [decide_eq_false (show ¬ ¬ nI 0 = (0 : Int32) from fun z => z rfl)]
        exact p
      obtain ⟨hf, hg, w⟩ := pd_loop (l := l) (on := on') (ze := ze') (le := le) (re := re) (tr := tr) (u := u) (S := S) (T := T) (H := H) (G := G) (L := L) (x := x) (y := y) (zz := zz) (mm := nI many) hth h9 (by omega) (tail (fun S => by rw [rd_tl_snoc, Nat.zero_add])) th 1 _ _ (nI 0) (nI 0) (nI 0) (by omega) (by omega) hD (fun z => by omega)
      have u1 := px_put (l := l) (u := u) (N := S) (T := T) (H := H) (G := G) (f := f) (L := L) (q := q) (on := on') (ze := ze') (le := le) (re := re) (tr := tr) (ch := 59) (n := len) (by omega) (by omega) (by omega)
      rw [← i64_59] at u1
      exact ⟨hf, hg, s61 hf (cw_run cw_kL_reads cw_z 9 [false, true] [] [(_, _)] (And.intro ((show ¬ nI (d + 1) ≤ 0 from nI_nle (by omega) (by omega))) (And.intro (u1) (And.intro (Nat.le_refl _) (And.intro ((show nI 1 ≤ nI (len + 1) from nI_le (by omega) (by omega))) (w))))))⟩
end PE
