/-! counts of bits -/
theorem cn_land {u v p q : Nat} (hu : u < 256) (hp : p < 256) : (256 * v + u) &&& (256 * q + p) = 256 * (v &&& q) + (u &&& p) := by
  apply Nat.eq_of_testBit_eq
  intro i
  have hup : u &&& p < 2 ^ 8 := Nat.and_lt_two_pow _ hp
  have h1 := Nat.testBit_two_pow_mul_add v (i := 8) hu i
  have h2 := Nat.testBit_two_pow_mul_add q (i := 8) hp i
  have h3 := Nat.testBit_two_pow_mul_add (v &&& q) (i := 8) hup i
  rw [show (2 : Nat) ^ 8 = 256 from rfl] at h1 h2 h3
  rw [Nat.testBit_and, h1, h2, h3]
  split
  · rw [Nat.testBit_and]
  · rw [Nat.testBit_and]
def cn_1 (M n : Nat) : Nat := n - ((n / 2) &&& M)
def cn_2 (M n : Nat) : Nat := (n &&& M) + ((n / 4) &&& M)
def cn_3 (M n : Nat) : Nat := (n + n / 16) &&& M
theorem cn_1s (M a b : Nat) (ha : a < 256) : cn_1 (256 * M + 0x55) (256 * b + a) = 256 * cn_1 M b + cn_1 0x55 a := by
  unfold cn_1
  have e1 : (256 * b + a) / 2 = 256 * (b / 2) + (a / 2 + 128 * (b % 2)) := by omega
  have e2 : (a / 2 + 128 * (b % 2)) &&& 0x55 = (a / 2) &&& 0x55 := (by decide +kernel : ∀ a, a < 128 → ∀ c, c < 2 → (a + 128 * c) &&& 0x55 = a &&& 0x55) (a / 2) (by omega) (b % 2) (by omega)
  rw [e1, cn_land (by omega) (by omega), e2]
  have h1 : (b / 2) &&& M ≤ b / 2 := Nat.and_le_left
  have h2 : (a / 2) &&& 0x55 ≤ a / 2 := Nat.and_le_left
  omega
theorem cn_2s (M a b : Nat) (ha : a < 256) : cn_2 (256 * M + 0x33) (256 * b + a) = 256 * cn_2 M b + cn_2 0x33 a := by
  unfold cn_2
  have e1 : (256 * b + a) / 4 = 256 * (b / 4) + (a / 4 + 64 * (b % 4)) := by omega
  have e2 : (a / 4 + 64 * (b % 4)) &&& 0x33 = (a / 4) &&& 0x33 := (by decide +kernel : ∀ a, a < 64 → ∀ c, c < 4 → (a + 64 * c) &&& 0x33 = a &&& 0x33) (a / 4) (by omega) (b % 4) (by omega)
  rw [e1, cn_land ha (by omega), cn_land (by omega) (by omega), e2]
  omega
theorem cn_3s (M a b : Nat) (ha : a ≤ 0x44) (hb : b % 16 ≤ 4) : cn_3 (256 * M + 0xf) (256 * b + a) = 256 * cn_3 M b + cn_3 0xf a := by
  unfold cn_3
  have e1 : 256 * b + a + (256 * b + a) / 16 = 256 * (b + b / 16) + (a + a / 16 + 16 * (b % 16)) := by omega
  have e2 : (a + a / 16 + 16 * (b % 16)) &&& 0xf = (a + a / 16) &&& 0xf := (by decide +kernel : ∀ a, a < 256 → ∀ c, c < 5 → (a + 16 * c) &&& 0xf = a &&& 0xf) (a + a / 16) (by omega) (b % 16) (by omega)
  rw [e1, cn_land (by omega) (by omega), e2]
theorem cn_byte : ∀ a, a < 256 → cn_3 0xf (cn_2 0x33 (cn_1 0x55 a)) = fb_ct (fun i => a.testBit i) 8 ∧ cn_2 0x33 (cn_1 0x55 a) ≤ 0x44 ∧ cn_2 0x33 (cn_1 0x55 a) % 16 ≤ 4 ∧ cn_1 0x55 a < 256 := by decide +kernel
theorem cn_pop {a b c : Nat} (ha : a < 256) (hb : b < 256) (hc : c < 256) : cn_3 0x0f0f0f (cn_2 0x333333 (cn_1 0x555555 (256 * (256 * c + b) + a))) = 256 * (256 * fb_ct (fun i => c.testBit i) 8 + fb_ct (fun i => b.testBit i) 8) + fb_ct (fun i => a.testBit i) 8 := by
  obtain ⟨a1, a2, a3, a4⟩ := cn_byte a ha
  obtain ⟨b1, b2, b3, b4⟩ := cn_byte b hb
  obtain ⟨c1, c2, c3, c4⟩ := cn_byte c hc
  rw [show (0x555555 : Nat) = 256 * (256 * 0x55 + 0x55) + 0x55 from rfl, cn_1s _ _ _ ha, cn_1s _ _ _ hb]
  rw [show (0x333333 : Nat) = 256 * (256 * 0x33 + 0x33) + 0x33 from rfl, cn_2s _ _ _ a4, cn_2s _ _ _ b4]
  rw [show (0x0f0f0f : Nat) = 256 * (256 * 0xf + 0xf) + 0xf from rfl, cn_3s _ _ _ a2 (by omega), cn_3s _ _ _ b2 c3, a1, b1, c1]

theorem cn_nI {n : Nat} (h : n < 2 ^ 32) : (nI n).toBitVec.toNat = n := Nat.mod_eq_of_lt h
theorem cn_of (x : Int32) : x = nI x.toBitVec.toNat := by
  apply Int32.toBitVec_inj.mp
  apply BitVec.eq_of_toNat_eq
  rw [cn_nI x.toBitVec.isLt]
theorem cn_us {n k : Nat} (h : n < 2 ^ 32) (hk : k < 32) : cb_us (nI n) k = nI (n / 2 ^ k) := by
  apply Int32.toBitVec_inj.mp
  apply BitVec.eq_of_toNat_eq
  have h1 : n / 2 ^ k < 2 ^ 32 := Nat.lt_of_le_of_lt (Nat.div_le_self _ _) h
  rw [cn_nI h1]
  unfold cb_us
  show ((nI n).toUInt32 >>> ((nI k).toUInt32 &&& Int32.toUInt32 31)).toBitVec.toNat = _
  rw [UInt32.toBitVec_shiftRight]
  show ((nI n).toUInt32.toBitVec >>> (((nI k).toUInt32 &&& Int32.toUInt32 31).toBitVec % 32).toNat).toNat = _
  rw [s_u k hk, BitVec.toNat_ushiftRight, Nat.shiftRight_eq_div_pow]
  congr 1
  exact cn_nI h
theorem cn_and {a b : Nat} (ha : a < 2 ^ 32) (hb : b < 2 ^ 32) : nI a &&& nI b = nI (a &&& b) := by
  apply Int32.toBitVec_inj.mp
  apply BitVec.eq_of_toNat_eq
  rw [cn_nI (Nat.and_lt_two_pow _ hb), Int32.toBitVec_and, BitVec.toNat_and, cn_nI ha, cn_nI hb]
theorem cn_1_le (M n : Nat) : cn_1 M n ≤ n := Nat.sub_le _ _
theorem cn_bc {n : Nat} (h : n < 2 ^ 24) : cb_bc (nI n) = nI ((cn_3 0x0f0f0f (cn_2 0x333333 (cn_1 0x555555 n)) + cn_3 0x0f0f0f (cn_2 0x333333 (cn_1 0x555555 n)) / 256 + (cn_3 0x0f0f0f (cn_2 0x333333 (cn_1 0x555555 n)) + cn_3 0x0f0f0f (cn_2 0x333333 (cn_1 0x555555 n)) / 256) / 65536) % 64) := by
  have low : ∀ (n : Nat) (M M' : Nat), n < 2 ^ 24 → M % 2 ^ 24 = M' → n &&& M = n &&& M' := by
    intro n M M' hn hM
    subst hM
    apply Nat.eq_of_testBit_eq
    intro i
    rw [Nat.testBit_and, Nat.testBit_and, Nat.testBit_mod_two_pow]
    by_cases hi : i < 24
    · simp [hi]
    · rw [Nat.testBit_lt_two_pow (Nat.lt_of_lt_of_le hn (Nat.pow_le_pow_right (by omega) (by omega)))]
      simp
  have e1 : cb_b1 (nI n) = nI (cn_1 0x555555 n) := by
    unfold cb_b1 cn_1
    rw [cn_us (by omega) (by omega), show (1431655765 : Int32) = nI 1431655765 from rfl, cn_and (by omega) (by omega), low (n / 2 ^ 1) 1431655765 0x555555 (by omega) rfl, pk_sub (Nat.le_trans Nat.and_le_left (Nat.div_le_self _ _))]
  have l1 : cn_1 0x555555 n < 2 ^ 24 := Nat.lt_of_le_of_lt (cn_1_le _ _) h
  generalize cn_1 0x555555 n = m at e1 l1 ⊢
  have e2 : cb_b2 (nI m) = nI (cn_2 0x333333 m) := by
    unfold cb_b2 cn_2
    rw [cn_us (by omega) (by omega), show (858993459 : Int32) = nI 858993459 from rfl, cn_and (by omega) (by omega), cn_and (by omega) (by omega), low (m / 2 ^ 2) 858993459 0x333333 (by omega) rfl, low m 858993459 0x333333 l1 rfl, nI_add]
  have l2 : cn_2 0x333333 m ≤ 0x666666 := by
    unfold cn_2
    have h1 : m &&& 0x333333 ≤ 0x333333 := Nat.and_le_right
    have h2 : (m / 4) &&& 0x333333 ≤ 0x333333 := Nat.and_le_right
    omega
  generalize cn_2 0x333333 m = q at e2 l2 ⊢
  have e3 : cb_b3 (nI q) = nI (cn_3 0x0f0f0f q) := by
    unfold cb_b3 cn_3
    have hq : q + q / 2 ^ 4 < 2 ^ 24 := by omega
    rw [cn_us (by omega) (by omega), nI_add, show (252645135 : Int32) = nI 252645135 from rfl, cn_and (by omega) (by omega), low _ 252645135 0x0f0f0f hq rfl]
  have l3 : cn_3 0x0f0f0f q ≤ 0x0f0f0f := Nat.and_le_right
  generalize cn_3 0x0f0f0f q = r at e3 l3 ⊢
  have e4 : cb_b4 (nI r) = nI (r + r / 256) := by
    unfold cb_b4
    rw [cn_us (by omega) (by omega), nI_add]
  have l4 : r + r / 256 < 2 ^ 25 := by omega
  generalize r + r / 256 = w at e4 l4 ⊢
  have e5 : cb_b5 (nI w) = nI (w + w / 65536) := by
    unfold cb_b5
    rw [cn_us (by omega) (by omega), nI_add]
  unfold cb_bc
  rw [e1, e2, e3, e4, e5]
  exact pk_andN (by omega) 6 rfl
theorem cn_ct {n : Nat} (h : n < 2 ^ 24) : cb_bc (nI n) = nI (fb_ct (fun i => n.testBit i) 24) := by
  have e : n = 256 * (256 * (n / 65536) + n / 256 % 256) + n % 256 := by omega
  have ha : n % 256 < 256 := Nat.mod_lt _ (by omega)
  have hb : n / 256 % 256 < 256 := Nat.mod_lt _ (by omega)
  have hc : n / 65536 < 256 := by omega
  have hp := cn_pop ha hb hc
  rw [← e] at hp
  rw [cn_bc h, hp]
  have ea : fb_ct (fun i => n.testBit i) 8 = fb_ct (fun i => (n % 256).testBit i) 8 := fb_ct_cong (fun k hk => by
    show n.testBit k = (n % 2 ^ 8).testBit k
    rw [Nat.testBit_mod_two_pow]; simp [hk])
  have eb : fb_ct (fun i => n.testBit (8 + i)) 8 = fb_ct (fun i => (n / 256 % 256).testBit i) 8 := fb_ct_cong (fun k hk => by
    show n.testBit (8 + k) = (n / 2 ^ 8 % 2 ^ 8).testBit k
    rw [Nat.testBit_mod_two_pow, Nat.testBit_div_two_pow]; simp [hk, Nat.add_comm])
  have ec : fb_ct (fun i => n.testBit (8 + (8 + i))) 8 = fb_ct (fun i => (n / 65536).testBit i) 8 := fb_ct_cong (fun k hk => by
    show n.testBit (8 + (8 + k)) = (n / 2 ^ 16).testBit k
    rw [Nat.testBit_div_two_pow, show 8 + (8 + k) = k + 16 by omega])
  have e24 : fb_ct (fun i => n.testBit i) 24 = fb_ct (fun i => (n % 256).testBit i) 8 + (fb_ct (fun i => (n / 256 % 256).testBit i) 8 + fb_ct (fun i => (n / 65536).testBit i) 8) := by
    rw [show 24 = 8 + 16 from rfl, fb_ct_split, ea, show 16 = 8 + 8 from rfl, fb_ct_split, eb, ec]
  rw [e24]
  have pa := fb_ct_le (fun i => (n % 256).testBit i) 8
  have pb := fb_ct_le (fun i => (n / 256 % 256).testBit i) 8
  have pc := fb_ct_le (fun i => (n / 65536).testBit i) 8
  generalize fb_ct (fun i => (n % 256).testBit i) 8 = A at pa ⊢
  generalize fb_ct (fun i => (n / 256 % 256).testBit i) 8 = B at pb ⊢
  generalize fb_ct (fun i => (n / 65536).testBit i) 8 = C at pc ⊢
  have h1 : (256 * (256 * C + B) + A) / 256 = 256 * C + B := by omega
  rw [h1]
  have h2 : (256 * (256 * C + B) + A + (256 * C + B)) / 65536 = C := by omega
  rw [h2]
  congr 1
  omega
/-- how many bits a set below 20 has -/
def cn_lo (x : Int32) : Prop := ∀ i, 20 ≤ i → i < 32 → bt x i = false
theorem cb_pop {x : Int32} (h : cn_lo x) : cb_bc x = nI (fb_ct (bt x) 20) := by
  have hb : ∀ i, 20 ≤ i → x.toBitVec.toNat.testBit i = false := by
    intro i hi
    rcases Nat.lt_or_ge i 32 with q | q
    · exact h i hi q
    · exact Nat.testBit_lt_two_pow (Nat.lt_of_lt_of_le x.toBitVec.isLt (Nat.pow_le_pow_right (by omega) q))
  have hn : x.toBitVec.toNat < 2 ^ 20 := Nat.lt_pow_two_of_testBit _ (fun i hi => hb i hi)
  have e := cn_ct (n := x.toBitVec.toNat) (by omega)
  rw [← cn_of x] at e
  rw [e, show 24 = 20 + 4 from rfl, fb_ct_split]
  have z : fb_ct (fun k => (fun i => x.toBitVec.toNat.testBit i) (20 + k)) 4 = 0 := fb_ct_zero.mpr (fun k _ => hb (20 + k) (by omega))
  rw [z]
  rfl
/-! pigeons -/
theorem pg_ct (r : Nat → Nat) (N : Nat) : ∀ m, fb_ct (fun k => (List.range m).any (fun j => decide (r j = k))) N ≤ m
  | 0 => by
    have z : fb_ct (fun k => (List.range 0).any (fun j => decide (r j = k))) N = 0 := fb_ct_zero.mpr (fun k _ => rfl)
    omega
  | m + 1 => by
    have ih := pg_ct r N m
    have hs : fb_ct (fun k => (List.range (m + 1)).any (fun j => decide (r j = k))) N ≤ fb_ct (fun k => if k = r m then true else (List.range m).any (fun j => decide (r j = k))) N := fb_ct_sub (fun k _ hk => by
      rw [List.range_succ, List.any_append] at hk
      by_cases c : k = r m
      · rw [if_pos c]
      · rw [if_neg c]
        simp only [List.any_cons, List.any_nil, Bool.or_false, Bool.or_eq_true, decide_eq_true_eq] at hk
        exact hk.resolve_right (fun q => c q.symm))
    rcases Nat.lt_or_ge (r m) N with q | q
    · have := fb_ct_upd (fun k => (List.range m).any (fun j => decide (r j = k))) true q
      simp only [reduceIte] at this
      omega
    · have := fb_ct_out (fun k => (List.range m).any (fun j => decide (r j = k))) true q
      omega
/-- m pigeons leave one of m + 1 holes empty -/
theorem pg_free (r : Nat → Nat) (m : Nat) : ∃ k, k ≤ m ∧ ∀ j, j < m → r j ≠ k := by
  refine Classical.byContradiction fun hx => ?_
  have h1 := pg_ct r (m + 1) m
  have h2 : fb_ct (fun k => (List.range m).any (fun j => decide (r j = k))) (m + 1) = m + 1 := fb_ct_all.mpr (fun k hk => by
    refine Classical.byContradiction fun hn => hx ⟨k, by omega, fun j hj e => hn ?_⟩
    exact List.any_eq_true.mpr ⟨j, List.mem_range.mpr hj, decide_eq_true e⟩)
  omega
/-- things that are unlike each other and unlike x, among 1 to 9, are at most 8 -/
theorem pg_inj {r : Nat → Nat} {x : Nat} (hx : 1 ≤ x ∧ x ≤ 9) : ∀ g, (∀ j, j < g → 1 ≤ r j ∧ r j ≤ 9 ∧ r j ≠ x) → (∀ j k, j < k → k < g → r j ≠ r k) → g ≤ 8 := by
  intro g h1 h2
  refine Classical.byContradiction fun hg => ?_
  have hle : 9 ≤ g := by omega
  -- the holes: each thing's place; a thing of 1 to 9 that is not x, for each of nine places
  have hct : ∀ m, m ≤ 9 → fb_ct (fun k => (List.range m).any (fun j => decide (r j = k))) 10 = m := by
    intro m
    induction m with
    | zero => intro _; exact fb_ct_zero.mpr (fun k _ => rfl)
    | succ m ih =>
      intro hm
      have ih1 := ih (by omega)
      obtain ⟨q1, q2, -⟩ := h1 m (by omega)
      have hu := fb_ct_upd (fun k => (List.range m).any (fun j => decide (r j = k))) true (i := r m) (n := 10) (by omega)
      have hf : (List.range m).any (fun j => decide (r j = r m)) = false := by
        rw [List.any_eq_false]
        intro j hj
        have := h2 j m (List.mem_range.mp hj) (by omega)
        simp [this]
      rw [show (fun k => (List.range (m + 1)).any (fun j => decide (r j = k))) = fun k => if k = r m then true else (List.range m).any (fun j => decide (r j = k)) by
        funext k
        rw [List.range_succ, List.any_append]
        by_cases c : k = r m
        · rw [if_pos c]; simp [c]
        · rw [if_neg c]
          have : ¬ r m = k := fun q => c q.symm
          simp [this]]
      rw [hf] at hu
      simp only [reduceIte] at hu
      have z : (if false = true then 1 else 0) = 0 := rfl
      omega
  have e9 := hct 9 (by omega)
  have hs : fb_ct (fun k => (List.range 9).any (fun j => decide (r j = k))) 10 ≤ fb_ct (fun k => if k = x then false else if k = 0 then false else true) 10 := fb_ct_sub (fun k _ hk => by
    obtain ⟨j, hj, e⟩ := List.any_eq_true.mp hk
    have e2 := of_decide_eq_true e
    obtain ⟨q1, q2, q3⟩ := h1 j (by have := List.mem_range.mp hj; omega)
    rw [if_neg (by omega), if_neg (by omega)])
  have h8 : fb_ct (fun k => if k = x then false else if k = 0 then false else true) 10 ≤ 8 :=
    (by decide : ∀ x, x < 10 → 1 ≤ x → fb_ct (fun k => if k = x then false else if k = 0 then false else true) 10 ≤ 8) x (by omega) hx.1
  omega

