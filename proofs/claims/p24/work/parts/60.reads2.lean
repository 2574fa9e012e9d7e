/-! p24: the law writes clauses, and reads them -/
abbrev pl_P (x y : Int32) : cw_LV := [(0, .ref 6), (1, .int x), (2, .int y), (3, .ref 0), (4, .ref 1), (5, .ref 2), (6, .ref 3), (7, .ref 4), (8, .ref 5)]
/-- from here the law's writing comes to a good end -/
def pq_W (l : Launch) (h0 : cw_H) (Good : cw_H → Prop) (pc : Nat) (lv : cw_LV) (h : cw_H) : Prop := ∃ hf, Good hf ∧ cw_W l mm_L_reads 5 101 h0 (some (.int (nI 1))) hf 0 0 pc lv [] h
def pd_I (th c t len : Nat) (f : Nat → Int32) (cur up down : Int32) (tl : cs_S → cs_S) : Prop := pr_c cur up down ∧ cr_c th cur ∧ (∀ i, i < 32 → bt cur i = true → i % 10 < t) ∧ fb_ct (bt (up ||| down)) 10 ≤ 4 ∧ len ≤ 13 * c + 1 + 3 * fb_ct (bt (up ||| down)) 10 ∧ (∀ k, k < len → cp_c1 (f k)) ∧ ∃ g L, g ≤ th ∧ L < t ∧ pt_S f len L (decide (¬ cur = 0)) false cur false g tl (c + 1)
theorem pd_chr {f : Nat → Int32} {len c : Nat} (h : ∀ k, k < len → cp_c1 (f k)) (hc : c < 127) : ∀ k, k < len + 1 → cp_c1 (upd f len (nI c) k) := by
  intro k hk
  by_cases e : k = len
  · rw [e, pk_us]; exact cp_c1_nI c hc
  · rw [pk_un e]; exact h k (by omega)
theorem pd_mono {th c t len : Nat} {f : Nat → Int32} {cur up down : Int32} {tl : cs_S → cs_S} (h : pd_I th c t len f cur up down tl) : pd_I th c (t + 1) len f cur up down tl := by
  obtain ⟨a1, a2, a3, a4, a5, a6, g, L, b1, b2, b3⟩ := h
  exact ⟨a1, a2, fun i hi w => by have := a3 i hi w; omega, a4, a5, a6, g, L, b1, by omega, b3⟩
theorem pd_zero {th : Nat} (h9 : th ≤ 9) {cur up down : Int32} (hp : pr_c cur up down) (hc : cr_c th cur) : (up ||| down) = 0 ↔ cur = 0 := by
  rw [cb_zero, cb_zero]
  constructor
  · intro h i hi
    cases w : bt cur i with
    | false => rfl
    | true =>
      have hs := cr_sg9 h9 (hc.1 i hi w)
      by_cases e : i < 10
      · have := h i hi
        rw [b_or, ((hp i hi).1).mpr ⟨e, w⟩, Bool.true_or] at this
        cases this
      · have := h (i - 10) (by omega)
        rw [b_or, ((hp (i - 10) (by omega)).2).mpr (by rw [show i - 10 + 10 = i by omega]; exact w), Bool.or_true] at this
        cases this
  · intro h i hi
    cases w : bt (up ||| down) i with
    | false => rfl
    | true =>
      rw [b_or, Bool.or_eq_true, (hp i hi).1, (hp i hi).2] at w
      rcases w with w | w
      · rw [h i hi] at w; cases w.2
      · rcases Nat.lt_or_ge (i + 10) 32 with q | q
        · rw [h _ q] at w; cases w
        · rw [b_big q] at w; cases w
theorem pd_hi {th : Nat} (h9 : th ≤ 9) {cur up down : Int32} (hp : pr_c cur up down) (hc : cr_c th cur) : ∀ i, 10 ≤ i → i < 32 → bt (up ||| down) i = false := by
  intro i h1 hi
  cases w : bt (up ||| down) i with
  | false => rfl
  | true =>
    rw [b_or, Bool.or_eq_true, (hp i hi).1, (hp i hi).2] at w
    rcases w with w | w
    · omega
    · rcases Nat.lt_or_ge (i + 10) 32 with q | q
      · have := cr_sg9 h9 (hc.1 _ q w); omega
      · rw [b_big q] at w; cases w
theorem pd_new {th c t len len3 g : Nat} {f3 : Nat → Int32} {cur up down : Int32} {tl : cs_S → cs_S} (h9 : th ≤ 9) (h1 : 1 ≤ t) (ht : t ≤ th) (a1 : pr_c cur up down) (a2 : cr_c th cur) (a3 : ∀ i, i < 32 → bt cur i = true → i % 10 < t) (a4 : fb_ct (bt (up ||| down)) 10 ≤ 4) (a4' : ¬ fb_ct (bt (up ||| down)) 10 = 4) (a5 : len ≤ 13 * c + 1 + 3 * fb_ct (bt (up ||| down)) 10) (z : Bool) (hl : len3 ≤ len + 3) (hch : ∀ k, k < len3 → cp_c1 (f3 k)) (hg : g ≤ th) (hS : pt_S f3 len3 t true false (cur ||| cb_set (nI (if z then t + 10 else t))) false (max g t) tl (c + 1)) : pd_I th c (t + 1) len3 f3 (cur ||| cb_set (nI (if z then t + 10 else t))) (up ||| (if z then nI 0 else nI 1 <<< (nI t &&& 31))) (down ||| (if z then nI 1 <<< (nI t &&& 31) else nI 0)) tl := by
  obtain ⟨b1, b2, b3, b4, b5⟩ := pd_sets h9 h1 ht a1 a2 a3 z
  exact ⟨b1, b2, b3, by omega, by omega, hch, max g t, t, by omega, by omega, by rw [decide_eq_true b5]; exact hS⟩
section PD
variable {l : Launch} {q on ze le re tr : Nat → Int32} {u : Int32} {S T : cs_S} {H G : Nat → Option Nat} {L : List cs_S} {h0 : cw_H} {Good : cw_H → Prop}
abbrev pd_X (q on ze le re tr : Nat → Int32) (u : Int32) (S T : cs_S) (H G : Nat → Option Nat) (L : List cs_S) (f : Nat → Int32) (len : Nat) : cw_H := px_h q on ze le re tr (cc_h u S T H G f (nI len) L)
theorem i64_59 : (59 : Int64) = lN 59 := by decide
theorem i64_44 : (44 : Int64) = lN 44 := by decide
theorem i64_45 : (45 : Int64) = lN 45 := by decide
theorem pd_w1z {f : Nat → Int32} {len t : Nat} {up down zz cc mm x y : Int32} {hf : cw_H} (hl : len + 3 < 60) (h1 : 1 ≤ t) (ht : t ≤ 9) (eud : (up ||| down) = 0) (w : cw_W l mm_L_reads 5 101 h0 (some (.int (nI 1))) hf 0 0 82 ((14, .int (nI t + nI 1)) :: (13, .int (down ||| (nI 1 <<< (nI t &&& 31)))) :: (12, .int (up ||| nI 0)) :: (11, .int zz) :: (10, .int cc) :: (9, .int mm) :: pl_P x y) [] (pd_X q on ze le re tr u S T H G L (upd (upd f len (nI 45)) (len + 1) (nI (48 + t))) (len + 1 + 1))) : cw_W l mm_L_reads 5 101 h0 (some (.int (nI 1))) hf 0 0 146 ((15, .int (nI 1)) :: (14, .int (nI t)) :: (13, .int down) :: (12, .int up) :: (11, .int zz) :: (10, .int cc) :: (9, .int mm) :: pl_P x y) [] (pd_X q on ze le re tr u S T H G L f len) := by
  have e48 : (nI 48 + nI t).toInt64 = lN (48 + t) := by rw [nI_add, nI_l (by omega)]
  have u1 := px_put (l := l) (u := u) (N := S) (T := T) (H := H) (G := G) (f := f) (L := L) (q := q) (on := on) (ze := ze) (le := le) (re := re) (tr := tr) (ch := 45) (n := len) (by omega) (by omega) (by omega)
  rw [← i64_45] at u1
  have u2 := px_put (l := l) (u := u) (N := S) (T := T) (H := H) (G := G) (f := (upd f len (nI 45))) (L := L) (q := q) (on := on) (ze := ze) (le := le) (re := re) (tr := tr) (ch := 48 + t) (n := len + 1) (by omega) (by omega) (by omega)
  rw [← e48] at u2
  exact cw_run cw_kL_reads cw_z 38 [true, false, false, true, true, false] [] [(_, _), (_, _)] (And.intro (eud) (And.intro ((show ¬ ¬ nI 1 = nI 1 from fun z => z rfl)) (And.intro (u1) (And.intro (Nat.le_refl _) (And.intro ((show ¬ nI (len + 1) < nI 1 from nI_nlt (by omega) (by omega))) (And.intro (u2) (And.intro (Nat.le_refl _) (And.intro ((show nI 1 ≤ nI (len + 1 + 1) from nI_le (by omega) (by omega))) (And.intro ((show ¬ nI 1 = 0 by decide)) (And.intro ((show ¬ ¬ nI 1 = nI 1 from fun z => z rfl)) (cw_less [0, 1, 2, 4, 5, 6, 7, 8, 9, 10, 11, 12, 13, 14, 15] rfl w)))))))))))
theorem pd_w0z {f : Nat → Int32} {len t : Nat} {up down zz cc mm x y : Int32} {hf : cw_H} (hl : len + 3 < 60) (h1 : 1 ≤ t) (ht : t ≤ 9) (eud : (up ||| down) = 0) (w : cw_W l mm_L_reads 5 101 h0 (some (.int (nI 1))) hf 0 0 82 ((14, .int (nI t + nI 1)) :: (13, .int (down ||| nI 0)) :: (12, .int (up ||| (nI 1 <<< (nI t &&& 31)))) :: (11, .int zz) :: (10, .int cc) :: (9, .int mm) :: pl_P x y) [] (pd_X q on ze le re tr u S T H G L (upd f len (nI (48 + t))) (len + 1))) : cw_W l mm_L_reads 5 101 h0 (some (.int (nI 1))) hf 0 0 146 ((15, .int (nI 0)) :: (14, .int (nI t)) :: (13, .int down) :: (12, .int up) :: (11, .int zz) :: (10, .int cc) :: (9, .int mm) :: pl_P x y) [] (pd_X q on ze le re tr u S T H G L f len) := by
  have e48 : (nI 48 + nI t).toInt64 = lN (48 + t) := by rw [nI_add, nI_l (by omega)]
  have u1 := px_put (l := l) (u := u) (N := S) (T := T) (H := H) (G := G) (f := f) (L := L) (q := q) (on := on) (ze := ze) (le := le) (re := re) (tr := tr) (ch := 48 + t) (n := len) (by omega) (by omega) (by omega)
  rw [← e48] at u1
  exact cw_run cw_kL_reads cw_z 33 [true, true, true, false, true] [] [(_, _)] (And.intro (eud) (And.intro ((show ¬ nI 0 = nI 1 by decide)) (And.intro (u1) (And.intro (Nat.le_refl _) (And.intro ((show nI 1 ≤ nI (len + 1) from nI_le (by omega) (by omega))) (And.intro ((show ¬ ¬ nI 0 = 0 from fun z => z rfl)) (And.intro ((show ¬ nI 0 = nI 1 by decide)) (cw_less [0, 1, 2, 4, 5, 6, 7, 8, 9, 10, 11, 12, 13, 14, 15] rfl w))))))))
theorem pd_w1n {f : Nat → Int32} {len t : Nat} {up down zz cc mm x y : Int32} {hf : cw_H} (hl : len + 3 < 60) (h1 : 1 ≤ t) (ht : t ≤ 9) (eud : ¬ (up ||| down) = 0) (w : cw_W l mm_L_reads 5 101 h0 (some (.int (nI 1))) hf 0 0 82 ((14, .int (nI t + nI 1)) :: (13, .int (down ||| (nI 1 <<< (nI t &&& 31)))) :: (12, .int (up ||| nI 0)) :: (11, .int zz) :: (10, .int cc) :: (9, .int mm) :: pl_P x y) [] (pd_X q on ze le re tr u S T H G L (upd (upd (upd f len (nI 44)) (len + 1) (nI 45)) (len + 1 + 1) (nI (48 + t))) (len + 1 + 1 + 1))) : cw_W l mm_L_reads 5 101 h0 (some (.int (nI 1))) hf 0 0 146 ((15, .int (nI 1)) :: (14, .int (nI t)) :: (13, .int down) :: (12, .int up) :: (11, .int zz) :: (10, .int cc) :: (9, .int mm) :: pl_P x y) [] (pd_X q on ze le re tr u S T H G L f len) := by
  have e48 : (nI 48 + nI t).toInt64 = lN (48 + t) := by rw [nI_add, nI_l (by omega)]
  have u1 := px_put (l := l) (u := u) (N := S) (T := T) (H := H) (G := G) (f := f) (L := L) (q := q) (on := on) (ze := ze) (le := le) (re := re) (tr := tr) (ch := 44) (n := len) (by omega) (by omega) (by omega)
  rw [← i64_44] at u1
  have u2 := px_put (l := l) (u := u) (N := S) (T := T) (H := H) (G := G) (f := (upd f len (nI 44))) (L := L) (q := q) (on := on) (ze := ze) (le := le) (re := re) (tr := tr) (ch := 45) (n := len + 1) (by omega) (by omega) (by omega)
  rw [← i64_45] at u2
  have u3 := px_put (l := l) (u := u) (N := S) (T := T) (H := H) (G := G) (f := (upd (upd f len (nI 44)) (len + 1) (nI 45))) (L := L) (q := q) (on := on) (ze := ze) (le := le) (re := re) (tr := tr) (ch := 48 + t) (n := len + 1 + 1) (by omega) (by omega) (by omega)
  rw [← e48] at u3
  exact cw_run cw_kL_reads cw_z 43 [false, false, false, false, true, true, false] [] [(_, _), (_, _), (_, _)] (And.intro (eud) (And.intro (u1) (And.intro (Nat.le_refl _) (And.intro ((show ¬ nI (len + 1) < nI 1 from nI_nlt (by omega) (by omega))) (And.intro ((show ¬ ¬ nI 1 = nI 1 from fun z => z rfl)) (And.intro (u2) (And.intro (Nat.le_refl _) (And.intro ((show ¬ nI (len + 1 + 1) < nI 1 from nI_nlt (by omega) (by omega))) (And.intro (u3) (And.intro (Nat.le_refl _) (And.intro ((show nI 1 ≤ nI (len + 1 + 1 + 1) from nI_le (by omega) (by omega))) (And.intro ((show ¬ nI 1 = 0 by decide)) (And.intro ((show ¬ ¬ nI 1 = nI 1 from fun z => z rfl)) (cw_less [0, 1, 2, 4, 5, 6, 7, 8, 9, 10, 11, 12, 13, 14, 15] rfl w))))))))))))))
theorem pd_w0n {f : Nat → Int32} {len t : Nat} {up down zz cc mm x y : Int32} {hf : cw_H} (hl : len + 3 < 60) (h1 : 1 ≤ t) (ht : t ≤ 9) (eud : ¬ (up ||| down) = 0) (w : cw_W l mm_L_reads 5 101 h0 (some (.int (nI 1))) hf 0 0 82 ((14, .int (nI t + nI 1)) :: (13, .int (down ||| nI 0)) :: (12, .int (up ||| (nI 1 <<< (nI t &&& 31)))) :: (11, .int zz) :: (10, .int cc) :: (9, .int mm) :: pl_P x y) [] (pd_X q on ze le re tr u S T H G L (upd (upd f len (nI 44)) (len + 1) (nI (48 + t))) (len + 1 + 1))) : cw_W l mm_L_reads 5 101 h0 (some (.int (nI 1))) hf 0 0 146 ((15, .int (nI 0)) :: (14, .int (nI t)) :: (13, .int down) :: (12, .int up) :: (11, .int zz) :: (10, .int cc) :: (9, .int mm) :: pl_P x y) [] (pd_X q on ze le re tr u S T H G L f len) := by
  have e48 : (nI 48 + nI t).toInt64 = lN (48 + t) := by rw [nI_add, nI_l (by omega)]
  have u1 := px_put (l := l) (u := u) (N := S) (T := T) (H := H) (G := G) (f := f) (L := L) (q := q) (on := on) (ze := ze) (le := le) (re := re) (tr := tr) (ch := 44) (n := len) (by omega) (by omega) (by omega)
  rw [← i64_44] at u1
  have u2 := px_put (l := l) (u := u) (N := S) (T := T) (H := H) (G := G) (f := (upd f len (nI 44))) (L := L) (q := q) (on := on) (ze := ze) (le := le) (re := re) (tr := tr) (ch := 48 + t) (n := len + 1) (by omega) (by omega) (by omega)
  rw [← e48] at u2
  exact cw_run cw_kL_reads cw_z 38 [false, false, true, true, false, true] [] [(_, _), (_, _)] (And.intro (eud) (And.intro (u1) (And.intro (Nat.le_refl _) (And.intro ((show ¬ nI (len + 1) < nI 1 from nI_nlt (by omega) (by omega))) (And.intro ((show ¬ nI 0 = nI 1 by decide)) (And.intro (u2) (And.intro (Nat.le_refl _) (And.intro ((show nI 1 ≤ nI (len + 1 + 1) from nI_le (by omega) (by omega))) (And.intro ((show ¬ ¬ nI 0 = 0 from fun z => z rfl)) (And.intro ((show ¬ nI 0 = nI 1 by decide)) (cw_less [0, 1, 2, 4, 5, 6, 7, 8, 9, 10, 11, 12, 13, 14, 15] rfl w)))))))))))
end PD
