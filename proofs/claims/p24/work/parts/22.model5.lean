/-! the reference: beginning anew, states moved and kept, what is asked of a clause -/
def cm_zc (f : Nat → Int32) (t i : Nat) : Nat → Int32 := fun j => if 49 + t ≤ j ∧ j < 49 + i then nI 0 else f j
theorem cm_zc_t (f : Nat → Int32) (t : Nat) : cm_zc f t t = f := by funext j; unfold cm_zc; rw [if_neg (by omega)]
theorem cm_zc_s (f : Nat → Int32) {t i : Nat} (h : t ≤ i) : upd (cm_zc f t i) (49 + i) (nI 0) = cm_zc f t (i + 1) := by
  funext j
  unfold upd cm_zc
  by_cases e : j = 49 + i
  · subst e; rw [if_pos rfl, if_pos (by omega)]
  · rw [if_neg e]
    by_cases q : 49 + t ≤ j ∧ j < 49 + i
    · rw [if_pos q, if_pos (by omega)]
    · rw [if_neg q, if_neg (by omega)]
def cm_an0 (f : Nat → Int32) (t : Nat) : Nat → Int32 := upd (upd (upd (upd (cm_zc (upd f 4 (nI 0)) t 60) 8 (nI 0)) 9 (nI 0)) 5 (nI 0)) 7 (nI 0)
def cm_fgs (f : Nat → Int32) : Nat → Nat → Int32
  | 0 => f
  | n + 1 => cm_fg (cm_fgs f n) n
def cm_an (f : Nat → Int32) (t : Nat) : Nat → Int32 := cm_gbk (nI 0) 0 (cm_fgs (cm_an0 f t) 10)
theorem cm_fgs_lo (f : Nat → Int32) {j : Nat} (h : j < 19) : ∀ n, cm_fgs f n j = f j
  | 0 => rfl
  | n + 1 => by
    unfold cm_fgs cm_fg
    rw [pk_un (by omega), pk_un (by omega), pk_un (by omega)]
    exact cm_fgs_lo f h n
theorem cm_an_B {f : Nat → Int32} {t : Nat} (ht : f 3 = nI t) (h20 : t ≤ 20) : cm_B (cm_fgs (cm_an0 f t) 10) t 0 0 := by
  have e : ∀ j, j < 19 → cm_fgs (cm_an0 f t) 10 j = cm_an0 f t j := fun j hj => cm_fgs_lo _ hj 10
  have z : ∀ j, j < 49 → cm_zc (upd f 4 (nI 0)) t 60 j = upd f 4 (nI 0) j := fun j hj => by unfold cm_zc; rw [if_neg (by omega)]
  refine ⟨⟨?_, h20⟩, ⟨?_, by omega⟩, ⟨?_, by omega⟩, fun k hk => absurd hk (by omega)⟩
  · rw [e 3 (by omega)]; unfold cm_an0; rw [pk_un (by omega), pk_un (by omega), pk_un (by omega), pk_un (by omega), z 3 (by omega), pk_un (by omega)]; exact ht
  · rw [e 4 (by omega)]; unfold cm_an0; rw [pk_un (by omega), pk_un (by omega), pk_un (by omega), pk_un (by omega), z 4 (by omega), pk_us]
  · rw [e 7 (by omega)]; unfold cm_an0; rw [pk_us]
/-- a state moved from row to row -/
def cm_2 (na nb : Nat) (F G : Nat → Int32) : cw_H := [.inl (0, na, .inl F), .inl (0, nb, .inl G)]
def cm_cp (F G : Nat → Int32) (a b i : Nat) : Nat → Int32 := fun j => if b ≤ j ∧ j < b + i then F (a + (j - b)) else G j
theorem cm_cp_0 (F G : Nat → Int32) (a b : Nat) : cm_cp F G a b 0 = G := by funext j; unfold cm_cp; rw [if_neg (by omega)]
theorem cm_cp_s (F G : Nat → Int32) (a b i : Nat) : upd (cm_cp F G a b i) (b + i) (F (a + i)) = cm_cp F G a b (i + 1) := by
  funext j
  unfold upd cm_cp
  by_cases e : j = b + i
  · subst e; rw [if_pos rfl, if_pos (by omega), show b + i - b = i by omega]
  · rw [if_neg e]
    by_cases q : b ≤ j ∧ j < b + i
    · rw [if_pos q, if_pos (by omega)]
    · rw [if_neg q, if_neg (by omega)]
def cm_io (p q : Nat) : Nat → Nat := fun k => if k = 0 then p else q
/-- what a change keeps: the state goes into the history -/
def cm_sh (h : Nat → Int32) (i : Nat) : Nat → Int32 := fun j => if j < i then h (j + 109) else h j
theorem cm_sh_0 (h : Nat → Int32) : cm_sh h 0 = h := by funext j; unfold cm_sh; rw [if_neg (by omega)]
theorem cm_sh_s (h : Nat → Int32) (i : Nat) : upd (cm_sh h i) i (cm_sh h i (i + 109)) = cm_sh h (i + 1) := by
  funext j
  unfold upd cm_sh
  by_cases e : j = i
  · subst e; rw [if_pos rfl, if_neg (by omega), if_pos (by omega)]
  · rw [if_neg e]
    by_cases q : j < i
    · rw [if_pos q, if_pos (by omega)]
    · rw [if_neg q, if_neg (by omega)]
def cm_ru (u : Nat) : Nat := if u = 6 then 5 else u
def cm_rh (h : Nat → Int32) (u : Nat) : Nat → Int32 := if u = 6 then cm_sh h 545 else h
def cm_rec (M : cm_S) (u : Nat) : cm_S := (M.1, M.2.1, cm_cp M.1 (cm_rh M.2.2.1 u) 0 (cm_ru u * 109) 109, nI (cm_ru u + 1), M.2.2.2.2)
/-- the greatest thing of a clause; of the told ones -/
def cm_gi (c : Int32) : Nat → Nat → Int32 → Int32
  | 0, _, a => a
  | n + 1, x, a => cm_gi c n (x + 1) (if cm_so c x = -nI 6 then a else nI x)
def cm_gt (f : Nat → Int32) : Nat → Nat → Int32 → Int32
  | 0, _, a => a
  | n + 1, k, a => cm_gt f n (k + 1) (if a < cm_gi (f (49 + k)) 9 1 (nI 0) then cm_gi (f (49 + k)) 9 1 (nI 0) else a)
/-- settings, told clauses, things -/
def cb_iv (s v : Int32) : Bool := if s = 0 then cb_wi v (nI 1) (nI 9) else if s = nI 1 then cb_wi v (nI 1) (nI 20) else if s = nI 2 then cb_wi v (nI 0) (nI 1) else false
/-- a told clause taken away -/
def cm_tk (f : Nat → Int32) (t k : Nat) : Nat → Int32 := cm_an (upd (cm_sf f k (t - 1)) 3 (nI (t - 1))) (t - 1)
/-- the place of a thing in the trail -/
def cm_pf (f : Nat → Int32) (x : Int32) : Nat → Nat → Int32 → Int32
  | 0, _, a => a
  | n + 1, k, a => cm_pf f x n (k + 1) (if f (10 + k) = x then nI k else a)
/-- how many signs a clause has; the one at a place -/
def cm_si (c : Int32) : Nat → Nat → Nat → Nat
  | 0, _, a => a
  | n + 1, s, a => cm_si c n (s + 1) (a + (if bt c s then 1 else 0))
theorem cb_nn (b : Bool) : cb_n b = nI (if b then 1 else 0) := by cases b <;> rfl
def cm_sa (c : Int32) : Nat → Nat → Int32 → Int32 → Int32
  | 0, _, _, a => a
  | n + 1, x, lf, a => cm_sa c n (x + 1) (lf - (if cm_so c x = -nI 6 then nI 0 else nI 1)) (if ¬ cm_so c x = -nI 6 ∧ lf = 0 then cm_so c x else a)
/-- does an answer make a clause true? -/
def cm_fi (c : Int32) (A : Nat) : Nat → Nat → Bool → Bool
  | 0, _, a => a
  | n + 1, s, a => cm_fi c A n (s + 1) (a || (bt c s && (decide (¬ s = 10) && decide (cb_n (bt (nI A) (s % 10 - 1)) = cb_wa s))))
/-- is it an answer, but for a clause? how many are there? -/
def cm_ia (f : Nat → Int32) (A : Nat) (but : Int32) : Nat → Nat → Bool
  | 0, _ => true
  | n + 1, k => (decide (nI k = but) || cm_fi (f (49 + k)) A 19 1 false) && cm_ia f A but n (k + 1)
def cm_isa (f : Nat → Int32) (t A : Nat) (but : Int32) : Bool := cm_ia f A but t 0
theorem cb_pow : ∀ th, th ≤ 9 → nI 1 <<< (nI th &&& 31) = nI (2 ^ th) := by decide +kernel
theorem cb_pow9 {th : Nat} (h : th ≤ 9) : 2 ^ th ≤ 512 := by
  calc 2 ^ th ≤ 2 ^ 9 := Nat.pow_le_pow_right (by omega) h
    _ = 512 := rfl
def cm_ab (f : Nat → Int32) (t : Nat) (but : Int32) : Nat → Nat → Nat → Nat
  | 0, _, m => m
  | n + 1, A, m => cm_ab f t but n (A + 1) (m + (if cm_isa f t A but then 1 else 0))
