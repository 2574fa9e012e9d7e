/-! p24's law: its small methods, over its six rows -/
def pl_h (q on ze le re tr : Nat → Int32) : cw_H := [.inl (0, 12, .inl q), .inl (0, 61, .inl on), .inl (0, 61, .inl ze), .inl (0, 10, .inl le), .inl (0, 10, .inl re), .inl (0, 10, .inl tr)]
def pl_low (v n : Int32) : Int32 := (v &&& 2147483647) - (v &&& 2147483647) / n * n
theorem pl_low_ok (l : Launch) (h : cw_H) (v : Int32) {n : Nat} (h0 : 0 < n) (hn : n < 2 ^ 31) : cw_M l mm_L_low 0 0 [.int v, .int (nI n)] h (some (.int (pl_low v (nI n)))) h := by
  refine cw_enter cw_KL_low (by decide) (Nat.le_of_ble_eq_true rfl) ?_
  exact cw_run cw_kL_low cw_z 5 [] [] [] (And.intro (nI_ne0 h0 hn) (cw_reti cw_kL_low cw_z rfl rfl))
theorem b_m1' (i : Nat) (hi : i < 32) : bt (-nI 1) i = true := b_m1 i hi
theorem pl_low_nI (v : Int32) {n : Nat} (h0 : 0 < n) (hn : n < 2 ^ 31) : ∃ r, r < n ∧ pl_low v (nI n) = nI r := by
  obtain ⟨w, hw, e⟩ : ∃ w, w < 2 ^ 31 ∧ v &&& 2147483647 = nI w := by
    refine ⟨v.toBitVec.toNat &&& 2147483647, ?_, ?_⟩
    · have : v.toBitVec.toNat &&& 2147483647 ≤ 2147483647 := Nat.and_le_right
      omega
    · rw [← cn_and v.toBitVec.isLt (by decide), ← cn_of]
      rfl
  refine ⟨w % n, Nat.mod_lt _ h0, ?_⟩
  have hd : w / n * n ≤ w := Nat.div_mul_le_self w n
  unfold pl_low
  rw [e, pk_div hw h0 hn, pk_mul, pk_sub hd]
  congr 1
  have := Nat.div_add_mod w n
  rw [Nat.mul_comm] at this
  omega
/-- how many bits a set has -/
def pl_ct (m : Nat) : Nat := fb_ct (fun i => m.testBit i) 10
theorem pl_ct_s : ∀ m, m < 1024 → m ≠ 0 → nI m &&& (nI m - nI 1) = nI (m &&& (m - 1)) ∧ pl_ct m = pl_ct (m &&& (m - 1)) + 1 := by decide +kernel
theorem pl_ct_0 : ∀ m, m < 1024 → pl_ct m = 0 → m = 0 := by decide +kernel
theorem pl_bits_loop (l : Launch) (h : cw_H) (x : Int32) : ∀ n m a, m < 1024 → pl_ct m = n → cw_W l mm_L_bits 0 0 h (some (.int (nI (a + n)))) h 0 0 4 [(2, .int (nI m)), (1, .int (nI a)), (0, .int x)] [] h := by
  intro n
  induction n with
  | zero =>
    intro m a hm hc
    obtain rfl := pl_ct_0 m hm hc
    exact cw_run cw_kL_bits cw_z 3 [true] [] [] (And.intro ((rfl : nI 0 = 0)) (cw_reti cw_kL_bits cw_z rfl rfl))
  | succ n ih =>
    intro m a hm hc
    have h0 : m ≠ 0 := fun z => by
      subst z
      have e : pl_ct 0 = 0 := by decide
      omega
    obtain ⟨e1, e2⟩ := pl_ct_s m hm h0
    have ih1 := ih (m &&& (m - 1)) (a + 1) (Nat.lt_of_le_of_lt Nat.and_le_left hm) (by omega)
    rw [← e1, ← nI_add a 1, show a + 1 + n = a + (n + 1) by omega] at ih1
    exact cw_run cw_kL_bits cw_z 10 [false] [] [] (And.intro (nI_ne0 (by omega) (by omega)) (ih1))
theorem pl_bits (l : Launch) (h : cw_H) {x : Int32} (hx : ∀ i, 10 ≤ i → i < 32 → bt x i = false) : cw_M l mm_L_bits 0 0 [.int x] h (some (.int (nI (fb_ct (bt x) 10)))) h := by
  have hm : x.toBitVec.toNat < 2 ^ 10 := Nat.lt_pow_two_of_testBit _ (fun i hi => by
    rcases Nat.lt_or_ge i 32 with q | q
    · exact hx i hi q
    · exact Nat.testBit_lt_two_pow (Nat.lt_of_lt_of_le x.toBitVec.isLt (Nat.pow_le_pow_right (by omega) q)))
  have k := pl_bits_loop l h x (fb_ct (bt x) 10) x.toBitVec.toNat 0 hm rfl
  rw [← cn_of x, Nat.zero_add] at k
  refine cw_enter cw_KL_bits (by decide) (Nat.le_of_ble_eq_true rfl) ?_
  exact cw_run cw_kL_bits cw_z 4 [] [] [] k
section PLA
variable {l : Launch} {q on ze le re tr : Nat → Int32}
/-- is a clause true? its open things -/
def pl_tr (q on ze : Nat → Int32) (k : Nat) : Bool := decide (¬ ((on k &&& q 10) ||| (ze k &&& q 11)) = 0)
def pl_op (q on ze : Nat → Int32) (k : Nat) : Int32 := (on k ||| ze k) &&& ((q 10 ||| q 11) ^^^ (-nI 1))
theorem pl_isTrue {k : Nat} (hk : k < 61) : cw_M l mm_L_isTrue 0 0 [.int (nI k), .ref 0, .ref 1, .ref 2] (pl_h q on ze le re tr) (some (.int (cb_n (pl_tr q on ze k)))) (pl_h q on ze le re tr) := by
  refine cw_enter cw_KL_isTrue (by decide) (Nat.le_of_ble_eq_true rfl) ?_
  by_cases c : ((on k &&& q 10) ||| (ze k &&& q 11)) = 0
  · rw [show pl_tr q on ze k = false from decide_eq_false (fun z => z c)]
    exact cw_run cw_kL_isTrue cw_z 17 [true] [_, _, _, _] [] (And.intro (rfl) (And.intro (hk) (And.intro (rfl) (And.intro (Nat.le_of_ble_eq_true rfl) (And.intro (rfl) (And.intro (hk) (And.intro (rfl) (And.intro (Nat.le_of_ble_eq_true rfl) (And.intro (c) (cw_retz cw_kL_isTrue cw_z rfl rfl (Or.inl rfl)))))))))))
  · rw [show pl_tr q on ze k = true from decide_eq_true c]
    exact cw_run cw_kL_isTrue cw_z 18 [false] [_, _, _, _] [] (And.intro (rfl) (And.intro (hk) (And.intro (rfl) (And.intro (Nat.le_of_ble_eq_true rfl) (And.intro (rfl) (And.intro (hk) (And.intro (rfl) (And.intro (Nat.le_of_ble_eq_true rfl) (And.intro (c) (cw_retz cw_kL_isTrue cw_z rfl rfl (Or.inr rfl)))))))))))
theorem pl_open {k : Nat} (hk : k < 61) : cw_M l mm_L_open 0 0 [.int (nI k), .ref 0, .ref 1, .ref 2] (pl_h q on ze le re tr) (some (.int (pl_op q on ze k))) (pl_h q on ze le re tr) := by
  refine cw_enter cw_KL_open (by decide) (Nat.le_of_ble_eq_true rfl) ?_
  exact cw_run cw_kL_open cw_z 17 [] [_, _, _, _] [] (And.intro (rfl) (And.intro (hk) (And.intro (rfl) (And.intro (hk) (And.intro (rfl) (And.intro (Nat.le_of_ble_eq_true rfl) (And.intro (rfl) (And.intro (Nat.le_of_ble_eq_true rfl) (cw_reti cw_kL_open cw_z rfl rfl)))))))))
/-- how many of g values stay: things x, levels out of le -/
def pb_n (le : Nat → Int32) (x : Nat → Nat) (L : Int32) : Nat → Nat
  | 0 => 0
  | g + 1 => if le (x g) ≤ L then g + 1 else pb_n le x L g
theorem pb_n_le (le : Nat → Int32) (x : Nat → Nat) (L : Int32) : ∀ g, pb_n le x L g ≤ g
  | 0 => Nat.le_refl _
  | g + 1 => by
    unfold pb_n
    by_cases c : le (x g) ≤ L
    · rw [if_pos c]; exact Nat.le_refl _
    · rw [if_neg c]; exact Nat.le_succ_of_le (pb_n_le le x L g)
/-- what going back does to the rows -/
def pb_F (L : Int32) (a g : Nat) (x : Nat → Nat) (q re q' re' : Nat → Int32) : Prop := q' 7 = nI a ∧ q' 6 = L ∧ (∀ j, j ≠ 6 → j ≠ 7 → j ≠ 10 → j ≠ 11 → q' j = q j) ∧ (∀ i, i < 32 → (bt (q' 10) i = true ↔ bt (q 10) i = true ∧ ∀ k, a ≤ k → k < g → x k ≠ i) ∧ (bt (q' 11) i = true ↔ bt (q 11) i = true ∧ ∀ k, a ≤ k → k < g → x k ≠ i)) ∧ ∀ t, (∀ k, a ≤ k → k < g → x k ≠ t) → re' t = re t
theorem pl_back_loop (l : Launch) (h0 : cw_H) (L : Int32) (x : Nat → Nat) : ∀ g, g ≤ 9 → (∀ k, k < g → tr k = nI (x k) ∧ x k ≤ 9) → ∀ q re, q 7 = nI g → ∃ q' re', pb_F L (pb_n le x L g) g x q re q' re' ∧ cw_W l mm_L_back 0 0 h0 none (pl_h q' on ze le re' tr) 0 0 0 [(0, .int L), (1, .ref 0), (2, .ref 3), (3, .ref 4), (4, .ref 5)] [] (pl_h q on ze le re tr) := by
  intro g
  induction g with
  | zero =>
    intro _ _ q re h7
    refine ⟨upd q 6 L, re, ⟨h7, rfl, fun j h6 _ _ _ => if_neg h6, fun i _ => ⟨⟨fun z => ⟨z, fun k _ hk => absurd hk (Nat.not_lt_zero k)⟩, fun z => z.1⟩, ⟨fun z => ⟨z, fun k _ hk => absurd hk (Nat.not_lt_zero k)⟩, fun z => z.1⟩⟩, fun _ _ => rfl⟩, ?_⟩
    exact cw_run cw_kL_back cw_z 8 [true] [_, _] [] (And.intro (rfl) (And.intro (Nat.le_of_ble_eq_true rfl) (And.intro ((show q 7 ≤ 0 by rw [h7]; decide)) (And.intro (rfl) (And.intro (Nat.le_of_ble_eq_true rfl) (cw_retv cw_kL_back cw_z rfl rfl))))))
  | succ g ih =>
    intro h9 hx q re h7
    obtain ⟨x1, x2⟩ := hx g (by omega)
    have n0 : ¬ q 7 ≤ 0 := by rw [h7]; exact nI_nle (by omega) (by omega)
    have e0 : q 7 - nI 1 = nI g := by rw [h7, pk_sub (by omega)]; rfl
    unfold pb_n
    by_cases c : le (x g) ≤ L
    · rw [if_pos c]
      refine ⟨upd q 6 L, re, ⟨h7, rfl, fun j h6 _ _ _ => if_neg h6, fun i _ => ⟨⟨fun z => ⟨z, fun k h1 h2 => by omega⟩, fun z => z.1⟩, ⟨fun z => ⟨z, fun k h1 h2 => by omega⟩, fun z => z.1⟩⟩, fun _ _ => rfl⟩, ?_⟩
      exact cw_run cw_kL_back cw_z 19 [false, true] [_, _, _, _, _] [] (And.intro (rfl) (And.intro (Nat.le_of_ble_eq_true rfl) (And.intro (n0) (And.intro (rfl) (And.intro (Nat.le_of_ble_eq_true rfl) (And.intro (e0) (And.intro ((show g < 10 by omega)) (And.intro (x1) (And.intro ((show x g < 10 by omega)) (And.intro (c) (And.intro (rfl) (And.intro (Nat.le_of_ble_eq_true rfl) (cw_retv cw_kL_back cw_z rfl rfl)))))))))))))
    · rw [if_neg c]
      obtain ⟨q', re', ⟨f7, f6, fj, fb, fr⟩, w⟩ := ih (by omega) (fun k hk => hx k (by omega)) (upd (upd (upd q 7 (q 7 - nI 1)) 10 (q 10 &&& ((nI 1 <<< (tr g &&& 31)) ^^^ (-nI 1)))) 11 (q 11 &&& ((nI 1 <<< (tr g &&& 31)) ^^^ (-nI 1)))) (upd re (x g) (-nI 6)) e0
      have hle := pb_n_le le x L g
      have hbit : ∀ (b : Int32) (i : Nat), i < 32 → (bt (b &&& ((nI 1 <<< (tr g &&& 31)) ^^^ (-nI 1))) i = true ↔ bt b i = true ∧ x g ≠ i) := by
        intro b i hi
        rw [x1, b_and, b_xor, cb_one (by omega) hi, b_m1' i hi, Bool.and_eq_true]
        by_cases e : i = x g
        · rw [decide_eq_true e]; simp [e]
        · rw [decide_eq_false e]; exact ⟨fun z => ⟨z.1, fun w => e w.symm⟩, fun z => ⟨z.1, rfl⟩⟩
      have hspl : ∀ (P : Nat → Prop), ((∀ k, pb_n le x L g ≤ k → k < g + 1 → P k) ↔ P g ∧ ∀ k, pb_n le x L g ≤ k → k < g → P k) := by
        intro P
        constructor
        · intro z; exact ⟨z g hle (by omega), fun k h1 h2 => z k h1 (by omega)⟩
        · rintro ⟨z1, z2⟩ k h1 h2
          by_cases e : k = g
          · subst e; exact z1
          · exact z2 k h1 (by omega)
      refine ⟨q', re', ⟨f7, f6, fun j h6 h7' h10 h11 => ?_, fun i hi => ⟨?_, ?_⟩, fun t ht => ?_⟩, ?_⟩
      · rw [fj j h6 h7' h10 h11]
        exact (if_neg h11).trans ((if_neg h10).trans (if_neg h7'))
      · rw [(fb i hi).1, hspl]
        show (bt (q 10 &&& ((nI 1 <<< (tr g &&& 31)) ^^^ (-nI 1))) i = true ∧ _) ↔ _
        rw [hbit _ i hi, and_assoc]
      · rw [(fb i hi).2, hspl]
        show (bt (q 11 &&& ((nI 1 <<< (tr g &&& 31)) ^^^ (-nI 1))) i = true ∧ _) ↔ _
        rw [hbit _ i hi, and_assoc]
      · rw [hspl] at ht
        rw [fr t ht.2]
        exact if_neg (fun z => ht.1 z.symm)
      · exact cw_run cw_kL_back cw_z 53 [false, false] [_, _, _, _, _, _, _, _, _, _, _, _] [] (And.intro (rfl) (And.intro (Nat.le_of_ble_eq_true rfl) (And.intro (n0) (And.intro (rfl) (And.intro (Nat.le_of_ble_eq_true rfl) (And.intro (e0) (And.intro ((show g < 10 by omega)) (And.intro (x1) (And.intro ((show x g < 10 by omega)) (And.intro (c) (And.intro (rfl) (And.intro (Nat.le_of_ble_eq_true rfl) (And.intro (rfl) (And.intro (Nat.le_of_ble_eq_true rfl) (And.intro (e0) (And.intro ((show g < 10 by omega)) (And.intro (rfl) (And.intro (Nat.le_of_ble_eq_true rfl) (And.intro (rfl) (And.intro (Nat.le_of_ble_eq_true rfl) (And.intro (rfl) (And.intro (Nat.le_of_ble_eq_true rfl) (And.intro (rfl) (And.intro (Nat.le_of_ble_eq_true rfl) (And.intro (x1) (And.intro ((show x g < 10 by omega)) (cw_less [1, 2, 3, 4, 5] rfl w)))))))))))))))))))))))))))
theorem pl_back {L : Int32} {x : Nat → Nat} {g : Nat} (h9 : g ≤ 9) (hx : ∀ k, k < g → tr k = nI (x k) ∧ x k ≤ 9) (h7 : q 7 = nI g) : ∃ q' re', pb_F L (pb_n le x L g) g x q re q' re' ∧ cw_M l mm_L_back 0 0 [.int L, .ref 0, .ref 3, .ref 4, .ref 5] (pl_h q on ze le re tr) none (pl_h q' on ze le re' tr) := by
  obtain ⟨q', re', f, w⟩ := pl_back_loop l (pl_h q on ze le re tr) L x g h9 hx q re h7
  exact ⟨q', re', f, cw_enter cw_KL_back (by decide) (Nat.le_of_ble_eq_true rfl) w⟩
/-- a value given -/
def pg_w (one : Bool) : Nat := if one then 10 else 11
def pg_q (q : Nat → Int32) (t : Nat) (one : Bool) : Nat → Int32 := upd (upd q 7 (q 7 + nI 1)) (pg_w one) (q (pg_w one) ||| (nI 1 <<< (nI t &&& 31)))
theorem pl_give {g t : Nat} (one : Bool) {r : Int32} (hg : q 7 = nI g) (h9 : g < 10) (ht : t < 10) : cw_M l mm_L_give 0 0 [.int (nI t), .int (cb_n one), .int r, .ref 0, .ref 3, .ref 4, .ref 5] (pl_h q on ze le re tr) none (pl_h (pg_q q t one) on ze (upd le t (q 6)) (upd re t r) (upd tr g (nI t))) := by
  refine cw_enter cw_KL_give (by decide) (Nat.le_of_ble_eq_true rfl) ?_
  cases one with
  | true => exact cw_run cw_kL_give cw_z 33 [false] [_, _, _, _, _, _, _, _] [] (And.intro (rfl) (And.intro (Nat.le_of_ble_eq_true rfl) (And.intro (rfl) (And.intro (Nat.le_of_ble_eq_true rfl) (And.intro (hg) (And.intro (h9) (And.intro (rfl) (And.intro (Nat.le_of_ble_eq_true rfl) (And.intro (rfl) (And.intro (ht) (And.intro (rfl) (And.intro (ht) (And.intro (cb_nt.mpr rfl) (And.intro (rfl) (And.intro (Nat.le_of_ble_eq_true rfl) (And.intro (rfl) (And.intro (Nat.le_of_ble_eq_true rfl) (cw_retv cw_kL_give cw_z rfl rfl))))))))))))))))))
  | false => exact cw_run cw_kL_give cw_z 32 [true] [_, _, _, _, _, _, _, _] [] (And.intro (rfl) (And.intro (Nat.le_of_ble_eq_true rfl) (And.intro (rfl) (And.intro (Nat.le_of_ble_eq_true rfl) (And.intro (hg) (And.intro (h9) (And.intro (rfl) (And.intro (Nat.le_of_ble_eq_true rfl) (And.intro (rfl) (And.intro (ht) (And.intro (rfl) (And.intro (ht) (And.intro (cb_n0.mpr rfl) (And.intro (rfl) (And.intro (Nat.le_of_ble_eq_true rfl) (And.intro (rfl) (And.intro (Nat.le_of_ble_eq_true rfl) (cw_retv cw_kL_give cw_z rfl rfl))))))))))))))))))
/-- all anew -/
def pa_q (q : Nat → Int32) : Nat → Int32 := upd (upd (upd (upd (upd q 4 (nI 0)) 5 (nI 0)) 6 (nI 0)) 8 (nI 0)) 9 (nI 0)
theorem pl_anew {x : Nat → Nat} {g : Nat} (h9 : g ≤ 9) (hx : ∀ k, k < g → tr k = nI (x k) ∧ x k ≤ 9) (h7 : q 7 = nI g) : ∃ q' re', pb_F (-nI 1) (pb_n le x (-nI 1) g) g x q re q' re' ∧ cw_M l mm_L_anew 0 0 [.ref 0, .ref 3, .ref 4, .ref 5] (pl_h q on ze le re tr) none (pl_h (pa_q q') on ze le re' tr) := by
  obtain ⟨q', re', f, w⟩ := pl_back (l := l) (on := on) (ze := ze) (le := le) (re := re) (L := -nI 1) h9 hx h7
  refine ⟨q', re', f, cw_enter cw_KL_anew (by decide) (Nat.le_of_ble_eq_true rfl) ?_⟩
  exact cw_run cw_kL_anew cw_z 26 [] [_, _, _, _, _] [(_, _)] (And.intro (w) (And.intro (Nat.le_refl _) (And.intro (rfl) (And.intro (Nat.le_of_ble_eq_true rfl) (And.intro (rfl) (And.intro (Nat.le_of_ble_eq_true rfl) (And.intro (rfl) (And.intro (Nat.le_of_ble_eq_true rfl) (And.intro (rfl) (And.intro (Nat.le_of_ble_eq_true rfl) (And.intro (rfl) (And.intro (Nat.le_of_ble_eq_true rfl) (cw_retv cw_kL_anew cw_z rfl rfl)))))))))))))
end PLA
