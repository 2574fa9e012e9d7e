/-! a contract on a small heap holds on a larger one: the frame -/
def cw_re (io : Nat → Nat) (q : cw_E) : cw_E := match q with
  | .inl a => .inl (a.1, cw_a io a.2)
  | .inr o => .inr (o.1, o.2.map (cw_v io))
theorem cw_v_comp (ad io : Nat → Nat) (v : Value) : cw_v ad (cw_v io v) = cw_v (fun k => ad (io k)) v := by cases v <;> rfl
theorem cw_a_comp (ad io : Nat → Nat) (x : vp_A) : cw_a ad (cw_a io x) = cw_a (fun k => ad (io k)) x := by
  obtain ⟨n, f | f | f | f | f⟩ := x
  · rfl
  · rfl
  · rfl
  · rfl
  · show ((n, Sum.inr (Sum.inr (Sum.inr (Sum.inr (fun j => ((f j).map io).map ad))))) : vp_A) = (n, Sum.inr (Sum.inr (Sum.inr (Sum.inr (fun j => (f j).map (fun k => ad (io k)))))))
    congr 5
    funext j
    cases f j <;> rfl
theorem cw_e_comp (cA : Nat → ClassId) (ad io : Nat → Nat) (q : cw_E) : cw_e cA ad (cw_re io q) = cw_e cA (fun k => ad (io k)) q := by
  obtain a | o := q
  · show Sum.inl (cA a.1, cw_a ad (cw_a io a.2)) = Sum.inl (cA a.1, cw_a (fun k => ad (io k)) a.2)
    rw [cw_a_comp]
  · show Sum.inr (o.1, (o.2.map (cw_v io)).map (cw_v ad)) = Sum.inr (o.1, o.2.map (cw_v (fun k => ad (io k))))
    rw [List.map_map]
    congr 2
    apply List.map_congr_left
    intro v _
    exact cw_v_comp ad io v
theorem cw_M_mono {l : Launch} {y : MethodName} {ws : List Cond} {rm : Room} {Pc Pc' : Array Value → State → Prop} {Qc Qc' : Array Value → State → Outcome → State → Prop} {mc ms : Nat} {free free' : Addr → Prop}
    (h : Met l y ws rm Pc Qc mc ms free) (hP : ∀ a s, Pc' a s → Pc a s) (hQ : ∀ a s o t, Pc' a s → Qc a s o t → Qc' a s o t) (hf : ∀ q, free q → free' q) : Met l y ws rm Pc' Qc' mc ms free' := by
  intro p e ha hc hk s m args below hfr happ hp hK
  obtain ⟨n, o, h1, h2, h3, h4, L, h5, h6⟩ := h p e ha hc hk s m args below hfr happ (hP _ _ hp) hK
  exact ⟨n, o, h1, h2, h3, hQ _ _ _ _ hp h4, L, h5, fun q hq => hf _ (h6 q hq)⟩
theorem cw_w_len (cA : Nat → ClassId) (ad : Nat → Nat) (h : cw_H) : (cw_w cA ad h).length = h.length := by simp [cw_w]
theorem cw_lt {h : cw_H} {k : Nat} {q : cw_E} (e : h[k]? = some q) : k < h.length := (List.getElem?_eq_some_iff.mp e).1
theorem cw_frame0 {l : Launch} {i : cw_I} {mc ms : Nat} {av : List Value} {hc : cw_H} {r : Option Value} {hc' : cw_H} (hM : cw_M l i mc ms av hc r hc') (io : Nat → Nat) {h h' : cw_H}
    (hl : hc'.length = hc.length) (hL : h'.length = h.length) (hsub : ∀ k q, hc[k]? = some q → h[io k]? = some (cw_re io q)) (hinj : ∀ j k, j < hc.length → k < hc.length → io j = io k → j = k)
    (hnew : ∀ k q, hc'[k]? = some q → h'[io k]? = some (cw_re io q)) (hold : ∀ j, j < h.length → (∀ k, k < hc.length → io k ≠ j) → h'[j]? = h[j]?) : cw_M l i mc ms (av.map (cw_v io)) h (r.map (cw_v io)) h' := by
  intro D cA ad sz
  have hsm : ∀ (k : Nat) (x : Nat × va_E), (cw_w cA (fun k => ad (io k)) hc)[k]? = some x → (cw_w cA ad h)[io k]? = some x := by
    intro k x hx
    obtain ⟨q, h1, h2⟩ := cw_w_inv hx
    rw [cw_w_get (hsub k q h1), h2, cw_e_comp]
  have hA : ∀ q, va_A (cw_w cA (fun k => ad (io k)) hc) sz q → va_A (cw_w cA ad h) sz q := by
    intro q hq
    rcases hq with ⟨k, x, hx⟩ | hq
    · exact Or.inl ⟨io k, x, hsm k _ hx⟩
    · exact Or.inr hq
  refine cw_M_mono (hM D cA (fun k => ad (io k)) sz) ?_ ?_ hA
  · rintro a s ⟨ha, hs, hP, hK, hD⟩
    refine ⟨?_, hs, fun k x hx => hP (io k) x (hsm k x hx), hK, ⟨fun j k x y hx hy hxy => ?_, fun _ _ _ => trivial⟩⟩
    · rw [ha, List.map_map]
      congr 1
      apply List.map_congr_left
      intro v _
      exact cw_v_comp ad io v
    · obtain ⟨q1, g1, -⟩ := cw_w_inv hx
      obtain ⟨q2, g2, -⟩ := cw_w_inv hy
      exact hinj j k (cw_lt g1) (cw_lt g2) (hD.1 (io j) (io k) x y (hsm j x hx) (hsm k y hy) hxy)
  · rintro a s o t ⟨ha, hs, hP, hK, hD⟩ ⟨⟨ad', hk, ho, hP1, hD1⟩, hF⟩
    have e2 : ad' = fun k => ad (io k) := funext fun k => hk k (by omega)
    subst e2
    have hlt : ∀ (j : Nat) (x : Nat × va_E), (cw_w cA ad h')[j]? = some x → ∃ y : Nat × va_E, (cw_w cA ad h)[j]? = some y ∧ y.1 = x.1 := by
      intro j x hx
      obtain ⟨q, g1, g2⟩ := cw_w_inv hx
      have hj : j < h.length := by rw [← hL]; exact cw_lt g1
      exact ⟨_, cw_w_get (List.getElem?_eq_getElem hj), by rw [g2]⟩
    refine ⟨⟨ad, fun _ _ => rfl, ?_, ?_, ?_⟩, hF.1, fun q h1 h2 => hF.2 q h1 (fun z => h2 (hA q z))⟩
    · rw [ho]
      cases r with
      | none => rfl
      | some v => simp only [Option.map_some, cw_v_comp]
    · intro j x hx
      obtain ⟨q, g1, g2⟩ := cw_w_inv hx
      by_cases hex : ∃ k, k < hc.length ∧ io k = j
      · obtain ⟨k, hk2, rfl⟩ := hex
        have g3 : hc'[k]? = some (hc'[k]'(by omega)) := List.getElem?_eq_getElem (by omega)
        have g4 := hnew k _ g3
        rw [g1] at g4
        cases g4
        have g5 := hP1 k _ (cw_w_get g3)
        rw [g2, cw_e_comp]
        exact g5
      · have hj : j < h.length := by rw [← hL]; exact cw_lt g1
        have g3 := hold j hj (fun k hk2 e => hex ⟨k, hk2, e⟩)
        rw [g1] at g3
        have g4 := hP j _ (cw_w_get g3.symm)
        rw [g2]
        refine g4.kept (hF.2 _ g4.lt (fun z => ?_))
        rcases z with ⟨k, y, hy⟩ | z
        · obtain ⟨q2, g6, g7⟩ := cw_w_inv hy
          exact hex ⟨k, cw_lt g6, hD.1 (io k) j _ _ (hsm k _ hy) (cw_w_get g3.symm) rfl⟩
        · exact absurd g4.lt (by rw [hs]; exact Nat.not_lt.mpr z)
    · refine ⟨fun j k x y hx hy hxy => ?_, fun k x hx => ?_⟩
      · obtain ⟨x', hx', ex⟩ := hlt j x hx
        obtain ⟨y', hy', ey⟩ := hlt k y hy
        exact hD.1 j k x' y' hx' hy' (by rw [ex, ey, hxy])
      · obtain ⟨x', hx', ex⟩ := hlt k x hx
        exact Or.inl ⟨k, x'.2, by rw [← ex]; exact hx'⟩
/-- a value, a cell that speaks of places below n alone -/
def cw_wfv (n : Nat) (v : Value) : Prop := match v with
  | .ref k => k < n
  | _ => True
def cw_wfe (n : Nat) (q : cw_E) : Prop := match q with
  | .inl (_, (_, .inr (.inr (.inr (.inr f))))) => ∀ j k, f j = some k → k < n
  | .inl _ => True
  | .inr o => ∀ v ∈ o.2, cw_wfv n v
theorem cw_wfv_eq {n : Nat} {v : Value} (h : cw_wfv n v) {ad ad' : Nat → Nat} (e : ∀ k, k < n → ad' k = ad k) : cw_v ad' v = cw_v ad v := by
  cases v with
  | ref k => exact congrArg Value.ref (e k h)
  | _ => rfl
theorem cw_wfe_eq {n : Nat} {q : cw_E} (h : cw_wfe n q) {ad ad' : Nat → Nat} (e : ∀ k, k < n → ad' k = ad k) (cA : Nat → ClassId) : cw_e cA ad' q = cw_e cA ad q := by
  obtain ⟨a, n2, f | f | f | f | f⟩ | o := q
  · rfl
  · rfl
  · rfl
  · rfl
  · show (Sum.inl (cA a, n2, Sum.inr (Sum.inr (Sum.inr (Sum.inr (fun j => (f j).map ad'))))) : va_E) = Sum.inl (cA a, n2, Sum.inr (Sum.inr (Sum.inr (Sum.inr (fun j => (f j).map ad)))))
    have : (fun j => (f j).map ad') = fun j => (f j).map ad := by
      funext j
      cases hf : f j with
      | none => rfl
      | some k => exact congrArg some (e k (h j k hf))
    rw [this]
  · show (Sum.inr (o.1, o.2.map (cw_v ad')) : va_E) = Sum.inr (o.1, o.2.map (cw_v ad))
    congr 2
    apply List.map_congr_left
    intro v hv
    exact cw_wfv_eq (h v hv) e
/-- the same, where the method makes cells: they come behind the larger heap's -/
theorem cw_frameA {l : Launch} {i : cw_I} {mc ms : Nat} {av : List Value} {hc : cw_H} {r : Option Value} {hc' : cw_H} (hM : cw_M l i mc ms av hc r hc') (io : Nat → Nat) {h h' : cw_H}
    (hl : hc.length ≤ hc'.length) (hL : h'.length = h.length + (hc'.length - hc.length)) (hsub : ∀ k q, hc[k]? = some q → h[io k]? = some (cw_re io q)) (hinj : ∀ j k, j < hc.length → k < hc.length → io j = io k → j = k)
    (hio : ∀ k, hc.length ≤ k → k < hc'.length → io k = h.length + (k - hc.length))
    (hnew : ∀ k q, hc'[k]? = some q → h'[io k]? = some (cw_re io q)) (hold : ∀ j, j < h.length → (∀ k, k < hc.length → io k ≠ j) → h'[j]? = h[j]?)
    (hwc : ∀ q ∈ hc', cw_wfe hc'.length q) (hwh : ∀ q ∈ h, cw_wfe h.length q) (hwr : ∀ v, r = some v → cw_wfv hc'.length v) : cw_M l i mc ms (av.map (cw_v io)) h (r.map (cw_v io)) h' := by
  intro D cA ad sz
  have hsm : ∀ (k : Nat) (x : Nat × va_E), (cw_w cA (fun k => ad (io k)) hc)[k]? = some x → (cw_w cA ad h)[io k]? = some x := by
    intro k x hx
    obtain ⟨q, h1, h2⟩ := cw_w_inv hx
    rw [cw_w_get (hsub k q h1), h2, cw_e_comp]
  have hA : ∀ q, va_A (cw_w cA (fun k => ad (io k)) hc) sz q → va_A (cw_w cA ad h) sz q := by
    intro q hq
    rcases hq with ⟨k, x, hx⟩ | hq
    · exact Or.inl ⟨io k, x, hsm k _ hx⟩
    · exact Or.inr hq
  refine cw_M_mono (hM D cA (fun k => ad (io k)) sz) ?_ ?_ hA
  · rintro a s ⟨ha, hs, hP, hK, hD⟩
    refine ⟨?_, hs, fun k x hx => hP (io k) x (hsm k x hx), hK, ⟨fun j k x y hx hy hxy => ?_, fun _ _ _ => trivial⟩⟩
    · rw [ha, List.map_map]
      congr 1
      apply List.map_congr_left
      intro v _
      exact cw_v_comp ad io v
    · obtain ⟨q1, g1, -⟩ := cw_w_inv hx
      obtain ⟨q2, g2, -⟩ := cw_w_inv hy
      exact hinj j k (cw_lt g1) (cw_lt g2) (hD.1 (io j) (io k) x y (hsm j x hx) (hsm k y hy) hxy)
  · rintro a s o t ⟨ha, hs, hP, hK, hD⟩ ⟨⟨adc, hk, ho, hP1, hD1⟩, hF⟩
    -- the larger heap's addresses behind the call
    obtain ⟨ad', had⟩ : ∃ ad' : Nat → Nat, ad' = fun j => if h.length ≤ j ∧ j < h'.length then adc (hc.length + (j - h.length)) else ad j := ⟨_, rfl⟩
    have had1 : ∀ j, j < h.length ∨ h'.length ≤ j → ad' j = ad j := by
      intro j hj
      rw [had]
      exact if_neg (by omega)
    have iolt : ∀ k, k < hc.length → io k < h.length := fun k hk2 => cw_lt (hsub k _ (List.getElem?_eq_getElem hk2))
    have had2 : ∀ k, k < hc'.length → ad' (io k) = adc k := by
      intro k hk2
      by_cases c : k < hc.length
      · rw [had1 _ (Or.inl (iolt k c)), hk k (Or.inl c)]
      · rw [had, hio k (by omega) hk2]
        show (if h.length ≤ h.length + (k - hc.length) ∧ h.length + (k - hc.length) < h'.length then adc (hc.length + (h.length + (k - hc.length) - h.length)) else _) = _
        rw [if_pos (by omega), show hc.length + (h.length + (k - hc.length) - h.length) = k by omega]
    have ecell : ∀ q, cw_wfe hc'.length q → cw_e cA ad' (cw_re io q) = cw_e cA adc q := by
      intro q hq
      rw [cw_e_comp]
      exact cw_wfe_eq hq had2 cA
    -- a place of the new heap: an untouched one, or one of the callee's
    have hsplit : ∀ (j : Nat) (x : Nat × va_E), (cw_w cA ad' h')[j]? = some x → (∃ k, k < hc'.length ∧ io k = j ∧ (cw_w cA adc hc')[k]? = some x) ∨ (j < h.length ∧ (∀ k, k < hc.length → io k ≠ j) ∧ (cw_w cA ad h)[j]? = some x) := by
      intro j x hx
      obtain ⟨q, g1, g2⟩ := cw_w_inv hx
      by_cases hex : ∃ k, k < hc'.length ∧ io k = j
      · obtain ⟨k, hk2, rfl⟩ := hex
        left
        refine ⟨k, hk2, rfl, ?_⟩
        have g3 : hc'[k]? = some hc'[k] := List.getElem?_eq_getElem hk2
        have g4 := hnew k _ g3
        rw [g1] at g4
        cases g4
        rw [cw_w_get g3, g2, ecell _ (hwc _ (List.mem_of_getElem? g3)), had2 k hk2]
      · right
        have hj2 := cw_lt g1
        have hj : j < h.length := by
          rcases Nat.lt_or_ge j h.length with z | z
          · exact z
          · exact absurd ⟨hc.length + (j - h.length), by omega, by rw [hio _ (by omega) (by omega)]; omega⟩ hex
        have g3 := hold j hj (fun k hk2 e => hex ⟨k, by omega, e⟩)
        rw [g1] at g3
        refine ⟨hj, fun k hk2 e => hex ⟨k, by omega, e⟩, ?_⟩
        rw [cw_w_get g3.symm, g2, had1 j (Or.inl hj), cw_wfe_eq (hwh _ (List.mem_of_getElem? g3.symm)) (fun k hk2 => had1 k (Or.inl hk2)) cA]
    have hout : ∀ (j : Nat) (x : Nat × va_E), j < h.length → (∀ k, k < hc.length → io k ≠ j) → (cw_w cA ad h)[j]? = some x → x.1 < s.heap.size ∧ ¬ va_A (cw_w cA (fun k => ad (io k)) hc) sz x.1 := by
      intro j x hj hn hx
      have g4 := (hP j _ hx).lt
      refine ⟨g4, fun z => ?_⟩
      rcases z with ⟨k, y, hy⟩ | z
      · obtain ⟨q2, g6, -⟩ := cw_w_inv hy
        exact hn k (cw_lt g6) (hD.1 (io k) j _ _ (hsm k _ hy) hx rfl)
      · omega
    refine ⟨⟨ad', had1, ?_, ?_, ?_⟩, hF.1, fun q h1 h2 => hF.2 q h1 (fun z => h2 (hA q z))⟩
    · rw [ho]
      cases r with
      | none => rfl
      | some v =>
        simp only [Option.map_some, cw_v_comp]
        rw [cw_wfv_eq (hwr v rfl) had2]
    · intro j x hx
      rcases hsplit j x hx with ⟨k, hk2, rfl, g⟩ | ⟨hj, hn, g⟩
      · exact hP1 k x g
      · obtain ⟨q1, q2⟩ := hout j x hj hn g
        exact (hP j x g).kept (hF.2 _ q1 q2)
    · refine ⟨fun j k x y hx hy hxy => ?_, fun k x hx => ?_⟩
      · rcases hsplit j x hx with ⟨k1, hk1, rfl, g⟩ | ⟨hj, hn, g⟩
        · rcases hsplit k y hy with ⟨k2, hk2, rfl, g2⟩ | ⟨hj2, hn2, g2⟩
          · rw [hD1.1 k1 k2 x y g g2 hxy]
          · exact absurd (by rw [← hxy]; exact hD1.2 k1 x g) (hout k y hj2 hn2 g2).2
        · rcases hsplit k y hy with ⟨k2, hk2, rfl, g2⟩ | ⟨hj2, hn2, g2⟩
          · exact absurd (by rw [hxy]; exact hD1.2 k2 y g2) (hout j x hj hn g).2
          · exact hD.1 j k x y g g2 hxy
      · rcases hsplit k x hx with ⟨k1, hk1, rfl, g⟩ | ⟨hj, hn, g⟩
        · exact hA _ (hD1.2 k1 x g)
        · exact Or.inl ⟨k, x.2, g⟩
/-- .. where the small heap lies as a block of the larger one -/
theorem cw_lift {l : Launch} {i : cw_I} {mc ms : Nat} {av : List Value} {hc : cw_H} {r : Option Value} {hc' : cw_H} (hM : cw_M l i mc ms av hc r hc') (hl : hc'.length = hc.length) (A B : cw_H) {b : Nat} (hb : A.length = b) :
    cw_M l i mc ms (av.map (cw_v (fun k => b + k))) (A ++ hc.map (cw_re (fun k => b + k)) ++ B) (r.map (cw_v (fun k => b + k))) (A ++ hc'.map (cw_re (fun k => b + k)) ++ B) := by
  have hg : ∀ (X : cw_H) (k : Nat) (q : cw_E), X[k]? = some q → (A ++ X.map (cw_re (fun k => b + k)) ++ B)[b + k]? = some (cw_re (fun k => b + k) q) := by
    intro X k q e
    have := cw_lt e
    rw [List.append_assoc, List.getElem?_append_right (by omega), show b + k - A.length = k by omega, List.getElem?_append_left (by rw [List.length_map]; exact this), List.getElem?_map, e]
    rfl
  refine cw_frame0 hM (fun k => b + k) hl (by simp [hl]) (hg hc) (fun j k _ _ e => by simpa using e) (hg hc') (fun j hj hn => ?_)
  by_cases h1 : j < b
  · rw [List.append_assoc, List.append_assoc, List.getElem?_append_left (by omega), List.getElem?_append_left (by omega)]
  · have h2 : b + hc.length ≤ j := by
      rcases Nat.lt_or_ge j (b + hc.length) with z | z
      · exact absurd (by omega : b + (j - b) = j) (hn (j - b) (by omega))
      · exact z
    rw [List.getElem?_append_right (by simp; omega), List.getElem?_append_right (by simp; omega)]
    simp [hl]
