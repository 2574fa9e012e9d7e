/-! the class: its heap; contracts of its searches and its pad, there -/
def cc_s (a b c d : Nat) (S : cs_S) (r : cw_H) : cw_H := .inr (1, [.int (cs_th S), .int (cs_re S), .int (cs_fi S), .int (cs_to S), .int (cs_le S), .ref a, .int (cs_gi S), .ref b, .ref c, .ref d, .int (cs_va S), .int (cs_sd S), .int (cs_co S), .int (cs_sp S)]) :: .inl (0, 60, .inl (cs_cl S)) :: .inl (0, 9, .inl (cs_sg S)) :: .inl (0, 9, .inl (cs_lv S)) :: .inl (0, 9, .inl (cs_rs S)) :: r
def cc_L : Nat → List cs_S → cw_H
  | _, [] => []
  | b, S :: r => cc_s (b + 1) (b + 2) (b + 3) (b + 4) S (cc_L (b + 5) r)
def cc_g (H : Nat → Option Nat) : Nat → Option Nat := fun i => (H i).map (fun j => 15 + 5 * j)
def cc_h (u : Int32) (N T : cs_S) (H G : Nat → Option Nat) (f : Nat → Int32) (pl : Int32) (L : List cs_S) : cw_H :=
  .inr (2, [.ref 1, .ref 6, .ref 11, .int u, .ref 12, .ref 13]) :: cc_s 2 3 4 5 N (cc_s 7 8 9 10 T (.inl (2, 6, .inr (.inr (.inr (.inr (cc_g H))))) :: .inl (2, 2, .inr (.inr (.inr (.inr (cc_g G))))) :: .inr (0, [.ref 14, .int pl]) :: .inl (1, 60, .inl f) :: cc_L 15 L))
theorem cc_L_len : ∀ (b : Nat) (L : List cs_S), (cc_L b L).length = 5 * L.length
  | _, [] => rfl
  | b, S :: r => by
    have := cc_L_len (b + 5) r
    simp only [cc_L, cc_s, List.length_cons, this]
    omega
theorem cc_len (u : Int32) (N T : cs_S) (H G : Nat → Option Nat) (f : Nat → Int32) (pl : Int32) (L : List cs_S) : (cc_h u N T H G f pl L).length = 15 + 5 * L.length := by
  have := cc_L_len 15 L
  simp only [cc_h, cc_s, List.length_cons, this]
  omega
section CCX
variable {l : Launch} {u : Int32} {N T : cs_S} {H G : Nat → Option Nat} {f : Nat → Int32} {pl : Int32} {L : List cs_S}
theorem cc_now {i : cw_I} {av : List Value} {r : Option Value} {N' : cs_S} (hM : cw_M l i 0 0 av (cs_h N) r (cs_h N')) : cw_M l i 0 0 (av.map (cw_v (fun k => 1 + k))) (cc_h u N T H G f pl L) (r.map (cw_v (fun k => 1 + k))) (cc_h u N' T H G f pl L) :=
  cw_lift hM rfl [.inr (2, [.ref 1, .ref 6, .ref 11, .int u, .ref 12, .ref 13])] (cc_s 7 8 9 10 T (.inl (2, 6, .inr (.inr (.inr (.inr (cc_g H))))) :: .inl (2, 2, .inr (.inr (.inr (.inr (cc_g G))))) :: .inr (0, [.ref 14, .int pl]) :: .inl (1, 60, .inl f) :: cc_L 15 L)) rfl
theorem cc_tri {i : cw_I} {av : List Value} {r : Option Value} {T' : cs_S} (hM : cw_M l i 0 0 av (cs_h T) r (cs_h T')) : cw_M l i 0 0 (av.map (cw_v (fun k => 6 + k))) (cc_h u N T H G f pl L) (r.map (cw_v (fun k => 6 + k))) (cc_h u N T' H G f pl L) :=
  cw_lift hM rfl (.inr (2, [.ref 1, .ref 6, .ref 11, .int u, .ref 12, .ref 13]) :: cc_s 2 3 4 5 N []) (.inl (2, 6, .inr (.inr (.inr (.inr (cc_g H))))) :: .inl (2, 2, .inr (.inr (.inr (.inr (cc_g G))))) :: .inr (0, [.ref 14, .int pl]) :: .inl (1, 60, .inl f) :: cc_L 15 L) rfl
theorem cc_pad {i : cw_I} {av : List Value} {r : Option Value} {f' : Nat → Int32} {pl' : Int32} (hM : cw_M l i 0 0 av (cp_h f pl) r (cp_h f' pl')) : cw_M l i 0 0 (av.map (cw_v (fun k => 13 + k))) (cc_h u N T H G f pl L) (r.map (cw_v (fun k => 13 + k))) (cc_h u N T H G f' pl' L) :=
  cw_lift hM rfl (.inr (2, [.ref 1, .ref 6, .ref 11, .int u, .ref 12, .ref 13]) :: cc_s 2 3 4 5 N (cc_s 7 8 9 10 T (.inl (2, 6, .inr (.inr (.inr (.inr (cc_g H))))) :: .inl (2, 2, .inr (.inr (.inr (.inr (cc_g G))))) :: []))) (cc_L 15 L) rfl
end CCX
/-- a search lies in the heap from place a on -/
def cc_at (h : cw_H) (a : Nat) (S : cs_S) : Prop := h[a]? = some (.inr (1, [.int (cs_th S), .int (cs_re S), .int (cs_fi S), .int (cs_to S), .int (cs_le S), .ref (a + 1), .int (cs_gi S), .ref (a + 2), .ref (a + 3), .ref (a + 4), .int (cs_va S), .int (cs_sd S), .int (cs_co S), .int (cs_sp S)])) ∧ h[a + 1]? = some (.inl (0, 60, .inl (cs_cl S))) ∧ h[a + 2]? = some (.inl (0, 9, .inl (cs_sg S))) ∧ h[a + 3]? = some (.inl (0, 9, .inl (cs_lv S))) ∧ h[a + 4]? = some (.inl (0, 9, .inl (cs_rs S)))
def cc_io (a b : Nat) : Nat → Nat := fun k => if k < 5 then a + k else b + (k - 5)
theorem cc_lt10 {S T : cs_S} {k : Nat} {q : cw_E} (h : (cs_h2 S T)[k]? = some q) : k < 10 := cw_lt h
set_option maxHeartbeats 1000000 in
theorem cc_copy {l : Launch} {h h' : cw_H} {a b : Nat} {S T : cs_S} (h1 : cc_at h a S) (h2 : cc_at h b T) (hd : a + 5 ≤ b ∨ b + 5 ≤ a) (hL : h'.length = h.length) (h3 : cc_at h' a (cs_copy S T)) (hold : ∀ j, j < a ∨ a + 5 ≤ j → h'[j]? = h[j]?) : cw_M l mm_X1_copyFrom 0 0 [.ref a, .ref b] h none h' := by
  have h4 : cc_at h' b T := by
    obtain ⟨p0, p1, p2, p3, p4⟩ := h2
    refine ⟨?_, ?_, ?_, ?_, ?_⟩
    · rw [hold _ (by omega)]; exact p0
    · rw [hold _ (by omega)]; exact p1
    · rw [hold _ (by omega)]; exact p2
    · rw [hold _ (by omega)]; exact p3
    · rw [hold _ (by omega)]; exact p4
  have key : ∀ (hh : cw_H) (S' : cs_S), cc_at hh a S' → cc_at hh b T → ∀ k q, (cs_h2 S' T)[k]? = some q → hh[cc_io a b k]? = some (cw_re (cc_io a b) q) := by
    intro hh S' q1 q2 k q hk
    obtain ⟨p0, p1, p2, p3, p4⟩ := q1
    obtain ⟨r0, r1, r2, r3, r4⟩ := q2
    match k with
    | 0 => cases hk; exact p0
    | 1 => cases hk; exact p1
    | 2 => cases hk; exact p2
    | 3 => cases hk; exact p3
    | 4 => cases hk; exact p4
    | 5 => cases hk; exact r0
    | 6 => cases hk; exact r1
    | 7 => cases hk; exact r2
    | 8 => cases hk; exact r3
    | 9 => cases hk; exact r4
    | k + 10 => exact absurd (cc_lt10 hk) (by omega)
  have := cw_frame0 (cs_copyFrom l S T) (cc_io a b) (h := h) (h' := h') rfl hL (key h S h1 h2) ?_ (key h' (cs_copy S T) h3 h4) ?_
  · exact this
  · intro j k hj hk e
    have hj2 : j < 10 := hj
    have hk2 : k < 10 := hk
    unfold cc_io at e
    split at e <;> split at e <;> omega
  · intro j hj hn
    refine hold j ?_
    rcases Nat.lt_or_ge j a with z | z
    · exact Or.inl z
    · rcases Nat.lt_or_ge j (a + 5) with z2 | z2
      · refine absurd ?_ (hn (j - a) (show j - a < 10 by omega))
        unfold cc_io
        rw [if_pos (by omega)]
        omega
      · exact Or.inr z2
/-- the saved searches lie one behind the other -/
theorem cc_s_get (a b c d : Nat) (S : cs_S) (r : cw_H) (k : Nat) : (cc_s a b c d S r)[k + 5]? = r[k]? := rfl
/-- .. told with the offset of the places -/
def cc_ao (h : cw_H) (o a : Nat) (S : cs_S) : Prop := h[a]? = some (.inr (1, [.int (cs_th S), .int (cs_re S), .int (cs_fi S), .int (cs_to S), .int (cs_le S), .ref (o + a + 1), .int (cs_gi S), .ref (o + a + 2), .ref (o + a + 3), .ref (o + a + 4), .int (cs_va S), .int (cs_sd S), .int (cs_co S), .int (cs_sp S)])) ∧ h[a + 1]? = some (.inl (0, 60, .inl (cs_cl S))) ∧ h[a + 2]? = some (.inl (0, 9, .inl (cs_sg S))) ∧ h[a + 3]? = some (.inl (0, 9, .inl (cs_lv S))) ∧ h[a + 4]? = some (.inl (0, 9, .inl (cs_rs S)))
theorem cc_L_ao : ∀ (j : Nat) (b : Nat) (L : List cs_S) (S : cs_S), L[j]? = some S → cc_ao (cc_L b L) b (5 * j) S
  | 0, b, S0 :: r, S, h => by
    cases h
    exact ⟨rfl, rfl, rfl, rfl, rfl⟩
  | j + 1, b, S0 :: r, S, h => by
    have ih := cc_L_ao j (b + 5) r S h
    unfold cc_ao at ih ⊢
    have e : b + 5 + 5 * j = b + (5 * j + 5) := by omega
    rw [e] at ih
    exact ih
  | _, _, [], _, h => by cases h
theorem cc_L_set : ∀ (j : Nat) (b : Nat) (L : List cs_S) (S : cs_S) (k : Nat), k < 5 * j ∨ 5 * j + 5 ≤ k → (cc_L b (L.set j S))[k]? = (cc_L b L)[k]?
  | _, _, [], _, _, _ => rfl
  | 0, b, S0 :: r, S, k, h => by
    obtain ⟨k', rfl⟩ : ∃ k', k = k' + 5 := ⟨k - 5, by omega⟩
    rfl
  | j + 1, b, S0 :: r, S, k, h => by
    rcases Nat.lt_or_ge k 5 with z | z
    · match k, z with
      | 0, _ => rfl
      | 1, _ => rfl
      | 2, _ => rfl
      | 3, _ => rfl
      | 4, _ => rfl
    · obtain ⟨k', rfl⟩ : ∃ k', k = k' + 5 := ⟨k - 5, by omega⟩
      exact cc_L_set j (b + 5) r S k' (by omega)
theorem cc_L_app : ∀ (b : Nat) (L : List cs_S) (S : cs_S), cc_L b (L ++ [S]) = cc_L b L ++ cc_L (b + 5 * L.length) [S]
  | _, [], _ => rfl
  | b, S0 :: r, S => by
    have ih := cc_L_app (b + 5) r S
    have e : b + 5 + 5 * r.length = b + 5 * (S0 :: r).length := by simp only [List.length_cons]; omega
    rw [e] at ih
    show cc_s (b + 1) (b + 2) (b + 3) (b + 4) S0 (cc_L (b + 5) (r ++ [S])) = cc_s (b + 1) (b + 2) (b + 3) (b + 4) S0 (cc_L (b + 5) r) ++ _
    rw [ih]
    rfl
section CCY
variable {l : Launch} {u : Int32} {N T : cs_S} {H G : Nat → Option Nat} {f : Nat → Int32} {pl : Int32} {L : List cs_S}
theorem cc_h_15 (k : Nat) : (cc_h u N T H G f pl L)[15 + k]? = (cc_L 15 L)[k]? := by
  rw [Nat.add_comm]; rfl
theorem cc_at_L {j : Nat} {S : cs_S} (h : L[j]? = some S) : cc_at (cc_h u N T H G f pl L) (15 + 5 * j) S := by
  obtain ⟨h0, h1, h2, h3, h4⟩ := cc_L_ao j 15 L S h
  refine ⟨(cc_h_15 _).trans h0, ?_, ?_, ?_, ?_⟩
  · exact (cc_h_15 (5 * j + 1)).trans h1
  · exact (cc_h_15 (5 * j + 2)).trans h2
  · exact (cc_h_15 (5 * j + 3)).trans h3
  · exact (cc_h_15 (5 * j + 4)).trans h4
theorem cc_at_N : cc_at (cc_h u N T H G f pl L) 1 N := ⟨rfl, rfl, rfl, rfl, rfl⟩
theorem cc_at_T : cc_at (cc_h u N T H G f pl L) 6 T := ⟨rfl, rfl, rfl, rfl, rfl⟩
/-- now into a saved one, a saved one into now, now into the trial -/
theorem cc_copyL {j : Nat} {S : cs_S} (h : L[j]? = some S) : cw_M l mm_X1_copyFrom 0 0 [.ref (15 + 5 * j), .ref 1] (cc_h u N T H G f pl L) none (cc_h u N T H G f pl (L.set j (cs_copy S N))) := by
  have hl : j < L.length := (List.getElem?_eq_some_iff.mp h).1
  refine cc_copy (cc_at_L h) cc_at_N (by omega) (by rw [cc_len, cc_len, List.length_set]) (cc_at_L (by rw [List.getElem?_set_self hl])) (fun k hk => ?_)
  rcases Nat.lt_or_ge k 15 with z | z
  · have key : ∀ k, k < 15 → (cc_h u N T H G f pl (L.set j (cs_copy S N)))[k]? = (cc_h u N T H G f pl L)[k]? := by
      intro k hk
      match k, hk with
      | 0, _ => rfl
      | 1, _ => rfl
      | 2, _ => rfl
      | 3, _ => rfl
      | 4, _ => rfl
      | 5, _ => rfl
      | 6, _ => rfl
      | 7, _ => rfl
      | 8, _ => rfl
      | 9, _ => rfl
      | 10, _ => rfl
      | 11, _ => rfl
      | 12, _ => rfl
      | 13, _ => rfl
      | 14, _ => rfl
      | k + 15, h => exact absurd h (by omega)
    exact key k z
  · obtain ⟨k', rfl⟩ : ∃ k', k = 15 + k' := ⟨k - 15, by omega⟩
    rw [cc_h_15, cc_h_15]
    exact cc_L_set j 15 L _ k' (by omega)
theorem cc_copyN {j : Nat} {S : cs_S} (h : L[j]? = some S) : cw_M l mm_X1_copyFrom 0 0 [.ref 1, .ref (15 + 5 * j)] (cc_h u N T H G f pl L) none (cc_h u (cs_copy N S) T H G f pl L) := by
  refine cc_copy cc_at_N (cc_at_L h) (by omega) (by rw [cc_len, cc_len]) cc_at_N (fun k hk => ?_)
  rcases hk with z | z
  · match k, z with
    | 0, _ => rfl
  · obtain ⟨k', rfl⟩ : ∃ k', k = k' + 6 := ⟨k - 6, by omega⟩
    rfl
theorem cc_copyT : cw_M l mm_X1_copyFrom 0 0 [.ref 6, .ref 1] (cc_h u N T H G f pl L) none (cc_h u N (cs_copy T N) H G f pl L) := by
  refine cc_copy cc_at_T cc_at_N (by omega) (by rw [cc_len, cc_len]) cc_at_T (fun k hk => ?_)
  rcases hk with z | z
  · match k, z with
    | 0, _ => rfl
    | 1, _ => rfl
    | 2, _ => rfl
    | 3, _ => rfl
    | 4, _ => rfl
    | 5, _ => rfl
    | k + 6, h => exact absurd h (by omega)
  · obtain ⟨k', rfl⟩ : ∃ k', k = k' + 11 := ⟨k - 11, by omega⟩
    rfl
/-- the pad's clauses told to now -/
def cc_ip : Nat → Nat := fun k => if k < 2 then 13 + k else k - 1
theorem cc_tellAll {n : Nat} (hn : n ≤ 60) (hc : ∀ k, k < n → cp_c1 (f k)) (ht : cs_to N = nI (cs_t N)) (h20 : cs_t N + cp_sc f n 0 ≤ 20) : cw_M l mm_X0_tellClausesTo 0 0 [.ref 13, .ref 1] (cc_h u N T H G f (nI n) L) none (cc_h u (cp_tl f n 0 (nI 0) false N) T H G f (nI n) L) := by
  have key : ∀ (S : cs_S) (k : Nat) (q : cw_E), (cp_h2 f (nI n) S)[k]? = some q → (cc_h u S T H G f (nI n) L)[cc_ip k]? = some (cw_re cc_ip q) := by
    intro S k q hk
    match k with
    | 0 => cases hk; rfl
    | 1 => cases hk; rfl
    | 2 => cases hk; rfl
    | 3 => cases hk; rfl
    | 4 => cases hk; rfl
    | 5 => cases hk; rfl
    | 6 => cases hk; rfl
    | k + 7 => exact absurd (show k + 7 < 7 from cw_lt hk) (by omega)
  have := cw_frame0 (cp_tellClausesTo l f N hn hc ht h20) cc_ip (h := cc_h u N T H G f (nI n) L) (h' := cc_h u (cp_tl f n 0 (nI 0) false N) T H G f (nI n) L) rfl (by rw [cc_len, cc_len]) (key N) ?_ (key _) ?_
  · exact this
  · intro j k hj hk e
    have hj2 : j < 7 := hj
    have hk2 : k < 7 := hk
    unfold cc_ip at e
    split at e <;> split at e <;> omega
  · intro j hj hn2
    match j with
    | 0 => rfl
    | 1 => exact absurd rfl (hn2 2 (show 2 < 7 by omega))
    | 2 => exact absurd rfl (hn2 3 (show 3 < 7 by omega))
    | 3 => exact absurd rfl (hn2 4 (show 4 < 7 by omega))
    | 4 => exact absurd rfl (hn2 5 (show 5 < 7 by omega))
    | 5 => exact absurd rfl (hn2 6 (show 6 < 7 by omega))
    | j + 6 => rfl
end CCY
