/-! the class's search: its heap, and the methods that read it -/
abbrev cs_S : Type := Int32 × Int32 × Int32 × Int32 × Int32 × (Nat → Int32) × Int32 × (Nat → Int32) × (Nat → Int32) × (Nat → Int32) × Int32 × Int32 × Int32 × Int32
abbrev cs_th (S : cs_S) : Int32 := S.1
abbrev cs_re (S : cs_S) : Int32 := S.2.1
abbrev cs_fi (S : cs_S) : Int32 := S.2.2.1
abbrev cs_to (S : cs_S) : Int32 := S.2.2.2.1
abbrev cs_le (S : cs_S) : Int32 := S.2.2.2.2.1
abbrev cs_cl (S : cs_S) : Nat → Int32 := S.2.2.2.2.2.1
abbrev cs_gi (S : cs_S) : Int32 := S.2.2.2.2.2.2.1
abbrev cs_sg (S : cs_S) : Nat → Int32 := S.2.2.2.2.2.2.2.1
abbrev cs_lv (S : cs_S) : Nat → Int32 := S.2.2.2.2.2.2.2.2.1
abbrev cs_rs (S : cs_S) : Nat → Int32 := S.2.2.2.2.2.2.2.2.2.1
abbrev cs_va (S : cs_S) : Int32 := S.2.2.2.2.2.2.2.2.2.2.1
abbrev cs_sd (S : cs_S) : Int32 := S.2.2.2.2.2.2.2.2.2.2.2.1
abbrev cs_co (S : cs_S) : Int32 := S.2.2.2.2.2.2.2.2.2.2.2.2.1
abbrev cs_sp (S : cs_S) : Int32 := S.2.2.2.2.2.2.2.2.2.2.2.2.2
def cs_h (S : cs_S) : cw_H := [.inr (1, [.int (cs_th S), .int (cs_re S), .int (cs_fi S), .int (cs_to S), .int (cs_le S), .ref 1, .int (cs_gi S), .ref 2, .ref 3, .ref 4, .int (cs_va S), .int (cs_sd S), .int (cs_co S), .int (cs_sp S)]), .inl (0, 60, .inl (cs_cl S)), .inl (0, 9, .inl (cs_sg S)), .inl (0, 9, .inl (cs_lv S)), .inl (0, 9, .inl (cs_rs S))]
theorem cs_clauseAt (l : Launch) (S : cs_S) {k : Nat} (hk : k < 60) : cw_M l mm_X1_clauseAt 0 0 [.ref 0, .int (nI k)] (cs_h S) (some (.int (cs_cl S k))) (cs_h S) := by
  refine cw_enter cw_KX1_clauseAt (by decide) (Nat.le_of_ble_eq_true rfl) ?_
  exact cw_run cw_kX1_clauseAt cw_z 12 [false, false] [_] [] (And.intro (nI_pos (by omega)) (And.intro ((show ¬ nI 60 ≤ nI k from nI_ge hk (by omega))) (And.intro (rfl) (And.intro (hk) (cw_reti cw_kX1_clauseAt cw_z rfl rfl)))))
/-- is a clause true? -/
def cs_tr (S : cs_S) (c : Int32) : Bool := decide (¬ (c &&& cs_va S) = 0)
/-- the open signs of a clause -/
def cs_op (S : cs_S) (c : Int32) : Int32 := c &&& ((cs_va S ||| cb_op (cs_va S)) ^^^ (-nI 1))
theorem cs_isTrue (l : Launch) (S : cs_S) (c : Int32) : cw_M l mm_X1_isTrue 0 0 [.ref 0, .int c] (cs_h S) (some (.int (cb_n (cs_tr S c)))) (cs_h S) := by
  refine cw_enter cw_KX1_isTrue (by decide) (Nat.le_of_ble_eq_true rfl) ?_
  by_cases h : (c &&& cs_va S) = 0
  · rw [show cs_tr S c = false by simp [cs_tr, h]]
    exact cw_run cw_kX1_isTrue cw_z 6 [true] [] [] (And.intro (h) (cw_retz cw_kX1_isTrue cw_z rfl rfl (Or.inl rfl)))
  · rw [show cs_tr S c = true by simp [cs_tr, h]]
    exact cw_run cw_kX1_isTrue cw_z 7 [false] [] [] (And.intro (h) (cw_retz cw_kX1_isTrue cw_z rfl rfl (Or.inr rfl)))
theorem cs_openSigns (l : Launch) (S : cs_S) (c : Int32) : cw_M l mm_X1_openSigns 0 0 [.ref 0, .int c] (cs_h S) (some (.int (cs_op S c))) (cs_h S) := by
  refine cw_enter cw_KX1_openSigns (by decide) (Nat.le_of_ble_eq_true rfl) ?_
  exact cw_run cw_kX1_openSigns cw_z 10 [] [] [(_, _)] (And.intro (cs_opposites l _ _) (And.intro (Nat.le_refl _) (cw_reti cw_kX1_openSigns cw_z rfl rfl)))
/-- the signs of a choice -/
def cs_ch (S : cs_S) (x : Int32) : Int32 := (x <<< (nI 1 &&& 31)) ||| (((nI 1 <<< (cs_th S &&& 31)) - nI 1 - x) <<< (nI 1 &&& 31)) <<< (nI 10 &&& 31)
/-- a place of the trail, looked at -/
theorem cs_signAt (l : Launch) (S : cs_S) {x : Int32} {k : Nat} (e : x = nI k) (hk : k < 9) : cw_M l mm_X1_signAt 0 0 [.ref 0, .int x] (cs_h S) (some (.int (cs_sg S k))) (cs_h S) := by
  subst e
  refine cw_enter cw_KX1_signAt (by decide) (Nat.le_of_ble_eq_true rfl) ?_
  exact cw_run cw_kX1_signAt cw_z 10 [false, false] [_] [] (And.intro (nI_pos (by omega)) (And.intro ((show ¬ nI 9 ≤ nI k from nI_ge hk (by omega))) (And.intro (rfl) (And.intro (hk) (cw_reti cw_kX1_signAt cw_z rfl rfl)))))
theorem cs_levelAt (l : Launch) (S : cs_S) {x : Int32} {k : Nat} (e : x = nI k) (hk : k < 9) : cw_M l mm_X1_levelAt 0 0 [.ref 0, .int x] (cs_h S) (some (.int (cs_lv S k))) (cs_h S) := by
  subst e
  refine cw_enter cw_KX1_levelAt (by decide) (Nat.le_of_ble_eq_true rfl) ?_
  exact cw_run cw_kX1_levelAt cw_z 10 [false, false] [_] [] (And.intro (nI_pos (by omega)) (And.intro ((show ¬ nI 9 ≤ nI k from nI_ge hk (by omega))) (And.intro (rfl) (And.intro (hk) (cw_reti cw_kX1_levelAt cw_z rfl rfl)))))
theorem cs_reasonAt (l : Launch) (S : cs_S) {x : Int32} {k : Nat} (e : x = nI k) (hk : k < 9) : cw_M l mm_X1_reasonAt 0 0 [.ref 0, .int x] (cs_h S) (some (.int (cs_rs S k))) (cs_h S) := by
  subst e
  refine cw_enter cw_KX1_reasonAt (by decide) (Nat.le_of_ble_eq_true rfl) ?_
  exact cw_run cw_kX1_reasonAt cw_z 10 [false, false] [_] [] (And.intro (nI_pos (by omega)) (And.intro ((show ¬ nI 9 ≤ nI k from nI_ge hk (by omega))) (And.intro (rfl) (And.intro (hk) (cw_reti cw_kX1_reasonAt cw_z rfl rfl)))))
/-- the present level, where g values are given -/
def cs_pl (S : cs_S) (g : Nat) : Int32 := if g = 0 then nI 0 else cs_lv S (g - 1)
theorem cs_presentLevel (l : Launch) (S : cs_S) {g : Nat} (hg : cs_gi S = nI g) (h9 : g ≤ 9) : cw_M l mm_X1_presentLevel 0 0 [.ref 0] (cs_h S) (some (.int (cs_pl S g))) (cs_h S) := by
  refine cw_enter cw_KX1_presentLevel (by decide) (Nat.le_of_ble_eq_true rfl) ?_
  by_cases h : g = 0
  · subst h
    rw [show cs_pl S 0 = nI 0 from rfl]
    exact cw_run cw_kX1_presentLevel cw_z 4 [true] [] [] (And.intro ((show cs_gi S ≤ 0 by rw [hg]; decide)) (cw_reti cw_kX1_presentLevel cw_z rfl rfl))
  · rw [show cs_pl S g = cs_lv S (g - 1) by simp [cs_pl, h]]
    exact cw_run cw_kX1_presentLevel cw_z 10 [false] [] [(_, _)] (And.intro ((show ¬ cs_gi S ≤ 0 by rw [hg]; exact nI_nle (by omega) (by omega))) (And.intro (cs_levelAt l S (show cs_gi S - nI 1 = nI (g - 1) by rw [hg, pk_sub (by omega)]) (show g - 1 < 9 by omega)) (And.intro (Nat.le_refl _) (cw_reti cw_kX1_presentLevel cw_z rfl rfl))))
/-- the place of a thing in the trail, looked for from place k on, n more places -/
def cs_pof (S : cs_S) (x : Int32) : Nat → Nat → Int32
  | 0, _ => -nI 6
  | n + 1, k => if (if cs_sg S k < nI 10 then cs_sg S k else cs_sg S k - nI 10) = x then nI k else cs_pof S x n (k + 1)
theorem cs_pof_loop (l : Launch) (S : cs_S) {g : Nat} (hg : cs_gi S = nI g) (h9 : g ≤ 9) (x : Int32) : ∀ n k, k + n = g → cw_W l mm_X1_placeOf 0 0 (cs_h S) (some (.int (cs_pof S x n k))) (cs_h S) 0 0 2 [(2, .int (nI k)), (0, .ref 0), (1, .int x)] [] (cs_h S) := by
  intro n
  induction n with
  | zero =>
    intro k hk
    exact cw_run cw_kX1_placeOf cw_z 5 [true] [] [] (And.intro ((show cs_gi S ≤ nI k by rw [hg]; exact nI_le (by omega) (by omega))) (cw_reti cw_kX1_placeOf cw_z rfl rfl))
  | succ n ih =>
    intro k hk
    have h0 : ¬ cs_gi S ≤ nI k := by rw [hg]; exact nI_ge (by omega) (by omega)
    by_cases c : (if cs_sg S k < nI 10 then cs_sg S k else cs_sg S k - nI 10) = x
    · rw [show cs_pof S x (n + 1) k = nI k by rw [cs_pof, if_pos c]]
      exact cw_run cw_kX1_placeOf cw_z 11 [false, false] [] [(_, _), (_, _)] (And.intro (h0) (And.intro (cs_signAt l S rfl (show k < 9 by omega)) (And.intro (Nat.le_refl _) (And.intro (cs_thingOf l _ _) (And.intro (Nat.le_refl _) (And.intro (fun q => q c) (cw_reti cw_kX1_placeOf cw_z rfl rfl)))))))
    · rw [show cs_pof S x (n + 1) k = cs_pof S x n (k + 1) by rw [cs_pof, if_neg c]]
      have ih1 := ih (k + 1) (by omega)
      rw [← nI_add k 1] at ih1
      exact cw_run cw_kX1_placeOf cw_z 12 [false, true] [] [(_, _), (_, _)] (And.intro (h0) (And.intro (cs_signAt l S rfl (show k < 9 by omega)) (And.intro (Nat.le_refl _) (And.intro (cs_thingOf l _ _) (And.intro (Nat.le_refl _) (And.intro (c) (ih1)))))))
theorem cs_placeOf (l : Launch) (S : cs_S) {g : Nat} (hg : cs_gi S = nI g) (h9 : g ≤ 9) (x : Int32) : cw_M l mm_X1_placeOf 0 0 [.ref 0, .int x] (cs_h S) (some (.int (cs_pof S x g 0))) (cs_h S) := by
  refine cw_enter cw_KX1_placeOf (by decide) (Nat.le_of_ble_eq_true rfl) ?_
  exact cw_run cw_kX1_placeOf cw_z 2 [] [] [] (cs_pof_loop l S hg h9 x g 0 (by omega))
/-- is a clause's number among the reasons from place k on? -/
def cs_isr (S : cs_S) (x : Int32) : Nat → Nat → Bool
  | 0, _ => false
  | n + 1, k => if cs_rs S k = x then true else cs_isr S x n (k + 1)
theorem cs_isr_loop (l : Launch) (S : cs_S) {g : Nat} (hg : cs_gi S = nI g) (h9 : g ≤ 9) (x : Int32) : ∀ n k, k + n = g → cw_W l mm_X1_isReason 0 0 (cs_h S) (some (.int (cb_n (cs_isr S x n k)))) (cs_h S) 0 0 2 [(2, .int (nI k)), (0, .ref 0), (1, .int x)] [] (cs_h S) := by
  intro n
  induction n with
  | zero =>
    intro k hk
    exact cw_run cw_kX1_isReason cw_z 5 [true] [] [] (And.intro ((show cs_gi S ≤ nI k by rw [hg]; exact nI_le (by omega) (by omega))) (cw_retz cw_kX1_isReason cw_z rfl rfl (Or.inl rfl)))
  | succ n ih =>
    intro k hk
    have h0 : ¬ cs_gi S ≤ nI k := by rw [hg]; exact nI_ge (by omega) (by omega)
    by_cases c : cs_rs S k = x
    · rw [show cs_isr S x (n + 1) k = true by rw [cs_isr, if_pos c]]
      exact cw_run cw_kX1_isReason cw_z 10 [false, false] [] [(_, _)] (And.intro (h0) (And.intro (cs_reasonAt l S rfl (show k < 9 by omega)) (And.intro (Nat.le_refl _) (And.intro (fun q => q c) (cw_retz cw_kX1_isReason cw_z rfl rfl (Or.inr rfl))))))
    · rw [show cs_isr S x (n + 1) k = cs_isr S x n (k + 1) by rw [cs_isr, if_neg c]]
      have ih1 := ih (k + 1) (by omega)
      rw [← nI_add k 1] at ih1
      exact cw_run cw_kX1_isReason cw_z 11 [false, true] [] [(_, _)] (And.intro (h0) (And.intro (cs_reasonAt l S rfl (show k < 9 by omega)) (And.intro (Nat.le_refl _) (And.intro (c) (ih1)))))
theorem cs_isReason (l : Launch) (S : cs_S) {g : Nat} (hg : cs_gi S = nI g) (h9 : g ≤ 9) (x : Int32) : cw_M l mm_X1_isReason 0 0 [.ref 0, .int x] (cs_h S) (some (.int (cb_n (cs_isr S x g 0)))) (cs_h S) := by
  refine cw_enter cw_KX1_isReason (by decide) (Nat.le_of_ble_eq_true rfl) ?_
  exact cw_run cw_kX1_isReason cw_z 2 [] [] [] (cs_isr_loop l S hg h9 x g 0 (by omega))
/-- the lowest thing that is open, from t on, n more -/
def cs_low (S : cs_S) : Nat → Nat → Int32
  | 0, _ => -nI 6
  | n + 1, t => if cs_op S (nI 1 <<< (nI t &&& 31)) = 0 then cs_low S n (t + 1) else nI t
theorem cs_low_loop (l : Launch) (S : cs_S) {th : Nat} (ht : cs_th S = nI th) (h9 : th ≤ 9) : ∀ n t, t + n = th + 1 → cw_W l mm_X1_lowestOpenThing 0 0 (cs_h S) (some (.int (cs_low S n t))) (cs_h S) 0 0 2 [(1, .int (nI t)), (0, .ref 0)] [] (cs_h S) := by
  intro n
  induction n with
  | zero =>
    intro t hk
    exact cw_run cw_kX1_lowestOpenThing cw_z 5 [true] [] [] (And.intro ((show cs_th S < nI t by rw [ht]; exact nI_lt (by omega) (by omega))) (cw_reti cw_kX1_lowestOpenThing cw_z rfl rfl))
  | succ n ih =>
    intro t hk
    have h0 : ¬ cs_th S < nI t := by rw [ht]; exact nI_nlt (by omega) (by omega)
    by_cases c : cs_op S (nI 1 <<< (nI t &&& 31)) = 0
    · rw [show cs_low S (n + 1) t = cs_low S n (t + 1) by rw [cs_low, if_pos c]]
      have ih1 := ih (t + 1) (by omega)
      rw [← nI_add t 1] at ih1
      exact cw_run cw_kX1_lowestOpenThing cw_z 11 [false, true] [] [(_, _), (_, _)] (And.intro (h0) (And.intro (cs_setOf l _ _) (And.intro (Nat.le_refl _) (And.intro (cs_openSigns l S _) (And.intro (Nat.le_refl _) (And.intro (c) (ih1)))))))
    · rw [show cs_low S (n + 1) t = nI t by rw [cs_low, if_neg c]]
      exact cw_run cw_kX1_lowestOpenThing cw_z 10 [false, false] [] [(_, _), (_, _)] (And.intro (h0) (And.intro (cs_setOf l _ _) (And.intro (Nat.le_refl _) (And.intro (cs_openSigns l S _) (And.intro (Nat.le_refl _) (And.intro (c) (cw_reti cw_kX1_lowestOpenThing cw_z rfl rfl)))))))
theorem cs_lowestOpenThing (l : Launch) (S : cs_S) {th : Nat} (ht : cs_th S = nI th) (h9 : th ≤ 9) : cw_M l mm_X1_lowestOpenThing 0 0 [.ref 0] (cs_h S) (some (.int (cs_low S th 1))) (cs_h S) := by
  refine cw_enter cw_KX1_lowestOpenThing (by decide) (Nat.le_of_ble_eq_true rfl) ?_
  exact cw_run cw_kX1_lowestOpenThing cw_z 2 [] [] [] (cs_low_loop l S ht h9 th 1 (by omega))

