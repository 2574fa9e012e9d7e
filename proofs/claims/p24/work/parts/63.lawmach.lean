/-! p24: the law itself over the abstract machine: its script is a place far away, which no cell takes -/
def lw_SC : Nat := 1000000000
def lw_C (p : Program) (s : State) (m : MethodId) (meth : Method) (c : Code) (D : va_G) (cA : Nat → ClassId) (b : Nat) : Prop := cw_X mm_L_law p room_1 s m #[Value.ref b] meth c D cA ∧ (∃ (Ln : Nat) (xs : Nat → Int32), Ln ≤ 260 ∧ va_X b Ln xs s s.heap) ∧ b < s.heap.size
def lw_G (p : Program) (l : Launch) (e : Env) (s : State) (m : MethodId) (below : List Frame) (meth : Method) (c : Code) (D : va_G) (cA : Nat → ClassId) (b : Nat) (Q : State → Prop) (kc ks pc : Nat) (lv : cw_LV) (st : List Value) (h : cw_H) : Prop := cw_G p l e room_1 s m #[Value.ref b] below meth c D cA (fun q => s.heap.size ≤ q) (fun k => k = lw_SC) (fun _ => b) Q 14 kc ks pc lv st h
def lg_wfk (n : Nat) (v : Value) : Prop := match v with
  | .ref k => k < n ∨ k = lw_SC
  | _ => True
theorem lg_L_eq {n : Nat} {lv : cw_LV} (hw : ∀ q ∈ lv, lg_wfk n q.2) {ad ad' : Nat → Nat} (e : ∀ k, k < n ∨ k = lw_SC → ad' k = ad k) : cw_L ad' lv = cw_L ad lv := by
  apply List.map_congr_left
  intro q hq
  have h1 := hw q hq
  have h2 : cw_v ad' q.2 = cw_v ad q.2 := by
    cases hv : q.2 with
    | ref k => rw [hv] at h1; exact congrArg Value.ref (e k h1)
    | _ => rfl
  rw [h2]
def lg_wfkb (n : Nat) (v : Value) : Bool := match v with
  | .ref k => Nat.blt k n || Nat.beq k lw_SC
  | _ => true
theorem lg_wl {n : Nat} {lv : cw_LV} (e : lv.all (fun q => lg_wfkb n q.2) = true) {n' : Nat} (hn : n ≤ n') : ∀ q ∈ lv, lg_wfk n' q.2 := by
  intro q hq
  have h1 := List.all_eq_true.mp e q hq
  cases hv : q.2 with
  | ref k =>
    rw [hv] at h1
    rcases Bool.or_eq_true _ _ ▸ h1 with z | z
    · exact Or.inl (Nat.lt_of_lt_of_le (Nat.le_of_ble_eq_true z) hn)
    · exact Or.inr (Nat.eq_of_beq_eq_true z)
  | _ => trivial
section LG
variable {p : Program} {l : Launch} {e : Env} {s : State} {m : MethodId} {below : List Frame} {meth : Method} {c : Code} {D : va_G} {cA : Nat → ClassId} {b : Nat} {Q : State → Prop}
theorem lw_run {kc ks pc : Nat} {lv : cw_LV} {st : List Value} {h : cw_H} (hC : lw_C p s m meth c D cA b) (hk : kc ≤ 600000 ∧ ks ≤ 7302250) (n : Nat) (ds : List Bool) (js : List Nat) (cs : List (Option Value × cw_H)) (hg : cw_go l mm_L_law n ds js cs pc lv st h (lw_G p l e s m below meth c D cA b Q kc ks)) : lw_G p l e s m below meth c D cA b Q kc ks pc lv st h :=
  cw_go_ok cw_kL_law hC.1 hk (fun q hq => hq) (fun pc lv st h q => q) n ds js cs pc lv st h hg
theorem lg_less {kc ks pc : Nat} {lv lv' : cw_LV} {st : List Value} {h : cw_H} (is : List Nat) (e1 : lv_pick lv is = lv') (k : lw_G p l e s m below meth c D cA b Q kc ks pc lv' st h) : lw_G p l e s m below meth c D cA b Q kc ks pc lv st h := by
  intro ad H locs ls hkp hP hD hS hl
  refine k ad H locs ls hkp hP hD hS (lv_sub hl is ?_)
  rw [← e1]
  simp only [lv_pick, cw_L, List.getElem?_map, List.map_filterMap]
theorem lg_widen {kc ks kc' ks' pc : Nat} {lv : cw_LV} {st : List Value} {h : cw_H} (h1 : kc ≤ kc') (h2 : ks ≤ ks') (k : lw_G p l e s m below meth c D cA b Q kc' ks' pc lv st h) : lw_G p l e s m below meth c D cA b Q kc ks pc lv st h := by
  intro ad H locs ls hkp hP hD hS hl
  exact W.widen h1 h2 (k ad H locs ls hkp hP hD hS hl)
/-- a static method's call, with what it makes -/
theorem lg_callS {ic : cw_I} {mc' ms' kc ks pc idx : Nat} {r : Option Value} {lv : cw_LV} {st : List Value} {h h' : cw_H} (hC : lw_C p s m meth c D cA b) (hk : kc + mc' ≤ 600000 ∧ ks + ms' ≤ 7302250) (hd : cw_look (cw_tb mm_L_law) pc = some (.invokestatic idx, 3)) (hc : cw_look (cw_cls 4) idx = some (1, ic)) (hn : st.length = cw_na ic) (hf : cw_f ic < cw_f mm_L_law)
    (hM : cw_M l ic mc' ms' st.reverse h r h') (hle : h.length ≤ h'.length) (hsc : h'.length ≤ lw_SC) (wl : ∀ q ∈ lv, lg_wfk h.length q.2)
    (kk : lw_G p l e s m below meth c D cA b Q (kc + mc') (ks + ms') (pc + 3) lv r.toList h') : lw_G p l e s m below meth c D cA b Q kc ks pc lv st h := by
  intro ad H locs ls hkp hP hD hS hl
  obtain ⟨hX, -, -⟩ := hC
  obtain ⟨hx, hb, hml, hown, hts, hK, hfr, hlo, -⟩ := hX
  have hdg : decode (cw_b mm_L_law) pc = .ok (.invokestatic idx, 3) := cw_kL_law.1 (pc, .invokestatic idx, 3) (cw_look_mem hd)
  have hlk : cw_okC 4 idx 1 ic := cw_clok 4 (idx, 1, ic) (cw_look_mem hc)
  have hls : ls.size = 14 := hl.1
  have hA1 := cw_A1 hD hS (fun q hq => hq)
  have hkk : ∀ (ad' : Nat → Nat) (H1 : Heap) (locs1 : List Loc), (∀ k, k < h.length ∨ h'.length ≤ k → ad' k = ad k) → va_P D vwCl (cw_w cA ad' h') H1 → va_D (va_A (cw_w cA ad h) H.size) (cw_w cA ad' h') → H.size ≤ H1.size → (∀ q : Nat, q < H.size → ¬ va_A (cw_w cA ad h) H.size q → H1[q]? = H[q]?) → va_S (fun q => s.heap.size ≤ q) s.heap H1 locs1 → W p l e room_1 s m #[Value.ref b] below meth c H1 locs1 (kc + mc') (ks + ms') Q (F0 m (pc + 3) ls ((r.map (cw_v ad')).toList ++ [])) := by
    intro ad' H1 locs1 e1 hP1 hD1 _ _ hS1
    have esc : ad' lw_SC = ad lw_SC := e1 lw_SC (Or.inr hsc)
    have := kk ad' H1 locs1 ls (fun k hk2 => by rw [hk2, esc]; exact hkp lw_SC rfl) hP1 (hD1.weaken (fun _ _ _ h => hA1 _ h)) hS1 (by
      rw [lg_L_eq wl (fun k hk2 => by
        rcases hk2 with z | z
        · exact e1 k (Or.inl z)
        · rw [z]; exact esc)]
      exact hl)
    cases r <;> exact this
  have hst : st.map (cw_v ad) = ((st.reverse.map (cw_v ad))).reverse ++ [] := by
    rw [List.map_reverse, List.reverse_reverse, List.append_nil]
  have hWW : 2 * (F0 m pc ls (st.map (cw_v ad))).monitorRoom + (([] : List Value).map fun v => v.category).sum ≤ 8 := lv_room (Nat.zero_le _)
  have hln : (st.reverse.map (cw_v ad)).length = cw_na ic := by rw [List.length_map, List.length_reverse]; exact hn
  have hR : cw_f ic + 1 ≤ room_1.frames ∧ 8 + (cw_nL ic + 11) + 35 * cw_f ic ≤ room_1.locals ∨ ¬ cw_nL ic ≤ 16 := by
    by_cases h15 : cw_nL ic ≤ 16
    · left; constructor <;> omega
    · right; exact h15
  have hlk' : Cond.methodLink (cw_own 4) idx ic.1 ∈ cw_T ∧ Cond.static ic.1 ∈ cw_T ∧ cw_okI ic := by
    rcases hlk with ⟨h, _⟩ | ⟨_, h⟩ | ⟨h, _⟩ | ⟨h, _⟩ | ⟨h, _⟩ | ⟨h, _⟩ | ⟨h, _⟩ | ⟨h, _⟩ | ⟨h, _⟩ <;> first | exact h | exact absurd h (by decide)
  obtain ⟨h1, h2, h3⟩ := hlk'
  have h3' := h3
  obtain ⟨-, -, k3, k4, k5, k6, k7, k8, k9, k10⟩ := h3
  have hR2 := hR.resolve_right (fun q => q k10)
  refine cw_callG (va_runS (As := st.reverse.map (cw_v ad)) ⟨hx, hb, hml, hown, hts⟩ (hM D cA ad H.size) (n := cw_na ic) ⟨⟨rfl, rfl, hR2.1, hR2.2, pay_in hts (cw_good2 h3'), List.mem_cons_self, hts _ k3, hts _ k4, ⟨k7, k8⟩, fun sig hsig => ?_, hts _ h1⟩, hts _ h2⟩ (cw_pre (i := ic) hK hP hD) rfl hln hls hst hWW hdg hk) hS (fun q _ h => hA1 q h) hA1 hkk
  rw [hsig] at k9; exact (Option.some.inj k9).symm
/-- an instance method's call, with what it makes -/
theorem lg_callV {ic : cw_I} {mc' ms' kc ks pc idx a ci : Nat} {fs : List Value} {r : Option Value} {lv : cw_LV} {st : List Value} {h h' : cw_H} (hC : lw_C p s m meth c D cA b) (hk : kc + mc' ≤ 600000 ∧ ks + ms' ≤ 7302250) (hd : cw_look (cw_tb mm_L_law) pc = some (.invokevirtual idx, 3)) (hc : cw_look (cw_cls 4) idx = some (0, ic)) (hn : st.length = cw_na ic) (hf : cw_f ic < cw_f mm_L_law) (hcell : h[a]? = some (.inr (ci, fs))) (hci : ci = cw_c ic) (hci4 : ci < 3)
    (hM : cw_M l ic mc' ms' (.ref a :: st.reverse) h r h') (hle : h.length ≤ h'.length) (hsc : h'.length ≤ lw_SC) (wl : ∀ q ∈ lv, lg_wfk h.length q.2)
    (kk : lw_G p l e s m below meth c D cA b Q (kc + mc') (ks + ms') (pc + 3) lv r.toList h') : lw_G p l e s m below meth c D cA b Q kc ks pc lv (st ++ [.ref a]) h := by
  intro ad H locs ls hkp hP hD hS hl
  subst hci
  obtain ⟨hX, -, -⟩ := hC
  obtain ⟨hx, hb, hml, hown, hts, hK, hfr, hlo, -⟩ := hX
  have hdg : decode (cw_b mm_L_law) pc = .ok (.invokevirtual idx, 3) := cw_kL_law.1 (pc, .invokevirtual idx, 3) (cw_look_mem hd)
  have hlk : cw_okC 4 idx 0 ic := cw_clok 4 (idx, 0, ic) (cw_look_mem hc)
  have hls : ls.size = 14 := hl.1
  have hA1 := cw_A1 hD hS (fun q hq => hq)
  have hkk : ∀ (ad' : Nat → Nat) (H1 : Heap) (locs1 : List Loc), (∀ k, k < h.length ∨ h'.length ≤ k → ad' k = ad k) → va_P D vwCl (cw_w cA ad' h') H1 → va_D (va_A (cw_w cA ad h) H.size) (cw_w cA ad' h') → H.size ≤ H1.size → (∀ q : Nat, q < H.size → ¬ va_A (cw_w cA ad h) H.size q → H1[q]? = H[q]?) → va_S (fun q => s.heap.size ≤ q) s.heap H1 locs1 → W p l e room_1 s m #[Value.ref b] below meth c H1 locs1 (kc + mc') (ks + ms') Q (F0 m (pc + 3) ls ((r.map (cw_v ad')).toList ++ [])) := by
    intro ad' H1 locs1 e1 hP1 hD1 _ _ hS1
    have esc : ad' lw_SC = ad lw_SC := e1 lw_SC (Or.inr hsc)
    have := kk ad' H1 locs1 ls (fun k hk2 => by rw [hk2, esc]; exact hkp lw_SC rfl) hP1 (hD1.weaken (fun _ _ _ h => hA1 _ h)) hS1 (by
      rw [lg_L_eq wl (fun k hk2 => by
        rcases hk2 with z | z
        · exact e1 k (Or.inl z)
        · rw [z]; exact esc)]
      exact hl)
    cases r <;> exact this
  have hst : (st ++ [Value.ref a]).map (cw_v ad) = ((st.reverse.map (cw_v ad))).reverse ++ .ref (ad a) :: [] := by
    rw [List.map_append, List.map_reverse, List.reverse_reverse]
    rfl
  have hWW : 2 * (F0 m pc ls ((st ++ [Value.ref a]).map (cw_v ad))).monitorRoom + (([] : List Value).map fun v => v.category).sum ≤ 8 := lv_room (Nat.zero_le _)
  have hln : (st.reverse.map (cw_v ad)).length = cw_na ic := by rw [List.length_map, List.length_reverse]; exact hn
  have hR : cw_f ic + 1 ≤ room_1.frames ∧ 8 + (cw_nL ic + 11) + 35 * cw_f ic ≤ room_1.locals ∨ ¬ cw_nL ic ≤ 16 := by
    by_cases h15 : cw_nL ic ≤ 16
    · left; constructor <;> omega
    · right; exact h15
  have hpre := cw_pre (i := ic) (av := .ref a :: st.reverse) hK hP hD
  have hrecv := va_recv (ci := cw_c ic) (q0 := a) hK.1 hP (cw_cl (cw_c ic) hci4) (cw_w_get hcell)
  have hlk' : Cond.methodLink (cw_own 4) idx ic.1 ∈ cw_T ∧ Cond.instanceMethod ic.1 ∈ cw_T ∧ Cond.selects ic.1.cls ic.1 ic.1 ∈ cw_T ∧ cw_okI ic := by
    rcases hlk with ⟨_, h⟩ | ⟨h, _⟩ | ⟨h, _⟩ | ⟨h, _⟩ | ⟨h, _⟩ | ⟨h, _⟩ | ⟨h, _⟩ | ⟨h, _⟩ | ⟨h, _⟩ <;> first | exact h | exact absurd h (by decide)
  obtain ⟨g1, g2, h2s, h3⟩ := hlk'
  have h3' := h3
  obtain ⟨-, -, k3, k4, k5, k6, k7, k8, k9, k10⟩ := h3
  have hR2 := hR.resolve_right (fun q => q k10)
  rw [k5] at h2s
  refine cw_callG (va_runV (C := cw_own (cw_c ic)) (b := ad a) (As := st.reverse.map (cw_v ad)) ⟨hx, hb, hml, hown, hts⟩ (hM D cA ad H.size) (n := cw_na ic) ⟨⟨rfl, rfl, hR2.1, hR2.2, pay_in hts (cw_good2 h3'), List.mem_cons_self, hts _ k3, hts _ k4, ⟨k7, k8⟩, fun sig hsig => ?_, hts _ g1⟩, hts _ g2, hts _ h2s⟩ ⟨hpre.1, hrecv, hpre.2⟩ rfl hln hls hst hWW hdg hk) hS (fun q _ h => hA1 q h) hA1 hkk
  rw [hsig] at k9; exact (Option.some.inj k9).symm
/-- a constructor's call, of what lies alone -/
theorem lg_callI {ic : cw_I} {mc' ms' kc ks pc idx a : Nat} {lv : cw_LV} {rs : List Value} {h h' : cw_H} (hC : lw_C p s m meth c D cA b) (hk : kc + mc' ≤ 600000 ∧ ks + ms' ≤ 7302250) (hd : cw_look (cw_tb mm_L_law) pc = some (.invokespecial idx, 3)) (hc : cw_look (cw_cls 4) idx = some (2, ic)) (hn : cw_na ic = 0) (hf : cw_f ic < cw_f mm_L_law) (hW : (rs.map fun v => v.category).sum ≤ 8)
    (hM : cw_M l ic mc' ms' [.ref a] h none h') (hle : h.length ≤ h'.length) (hsc : h'.length ≤ lw_SC) (wl : ∀ q ∈ lv, lg_wfk h.length q.2) (wr : ∀ v ∈ rs, cw_wfv h.length v)
    (kk : lw_G p l e s m below meth c D cA b Q (kc + mc') (ks + ms') (pc + 3) lv rs h') : lw_G p l e s m below meth c D cA b Q kc ks pc lv (.ref a :: rs) h := by
  intro ad H locs ls hkp hP hD hS hl
  obtain ⟨hX, -, -⟩ := hC
  obtain ⟨hx, hb, hml, hown, hts, hK, hfr, hlo, -⟩ := hX
  have hdg : decode (cw_b mm_L_law) pc = .ok (.invokespecial idx, 3) := cw_kL_law.1 (pc, .invokespecial idx, 3) (cw_look_mem hd)
  have hlk : cw_okC 4 idx 2 ic := cw_clok 4 (idx, 2, ic) (cw_look_mem hc)
  have hls : ls.size = 14 := hl.1
  have hA1 := cw_A1 hD hS (fun q hq => hq)
  have hkk : ∀ (ad' : Nat → Nat) (H1 : Heap) (locs1 : List Loc), (∀ k, k < h.length ∨ h'.length ≤ k → ad' k = ad k) → va_P D vwCl (cw_w cA ad' h') H1 → va_D (va_A (cw_w cA ad h) H.size) (cw_w cA ad' h') → H.size ≤ H1.size → (∀ q : Nat, q < H.size → ¬ va_A (cw_w cA ad h) H.size q → H1[q]? = H[q]?) → va_S (fun q => s.heap.size ≤ q) s.heap H1 locs1 → W p l e room_1 s m #[Value.ref b] below meth c H1 locs1 (kc + mc') (ks + ms') Q (F0 m (pc + 3) ls (((none : Option Value).map (cw_v ad')).toList ++ rs.map (cw_v ad))) := by
    intro ad' H1 locs1 e1 hP1 hD1 _ _ hS1
    have esc : ad' lw_SC = ad lw_SC := e1 lw_SC (Or.inr hsc)
    have e2 : ∀ k, k < h.length → ad' k = ad k := fun k hk2 => e1 k (Or.inl hk2)
    have := kk ad' H1 locs1 ls (fun k hk2 => by rw [hk2, esc]; exact hkp lw_SC rfl) hP1 (hD1.weaken (fun _ _ _ h => hA1 _ h)) hS1 (by
      rw [lg_L_eq wl (fun k hk2 => by
        rcases hk2 with z | z
        · exact e1 k (Or.inl z)
        · rw [z]; exact esc)]
      exact hl)
    rw [cw_st_eq wr e2] at this
    exact this
  have hWW : 2 * (F0 m pc ls ((Value.ref a :: rs).map (cw_v ad))).monitorRoom + ((rs.map (cw_v ad)).map fun v => v.category).sum ≤ 8 := lv_room (by rw [cw_cats]; exact hW)
  have hR : cw_f ic + 1 ≤ room_1.frames ∧ 8 + (cw_nL ic + 11) + 35 * cw_f ic ≤ room_1.locals ∨ ¬ cw_nL ic ≤ 16 := by
    by_cases h15 : cw_nL ic ≤ 16
    · left; constructor <;> omega
    · right; exact h15
  have hpre := cw_pre (i := ic) (av := [.ref a]) hK hP hD
  have hlk' : Cond.methodLink (cw_own 4) idx ic.1 ∈ cw_T ∧ Cond.instanceMethod ic.1 ∈ cw_T ∧ ic.1.name = "<init>" ∧ ic.2.2.2.1 = none ∧ cw_okI ic := by
    rcases hlk with ⟨h, _⟩ | ⟨h, _⟩ | ⟨_, h⟩ | ⟨h, _⟩ | ⟨h, _⟩ | ⟨h, _⟩ | ⟨h, _⟩ | ⟨h, _⟩ | ⟨h, _⟩ <;> first | exact h | exact absurd h (by decide)
  obtain ⟨g1, g2, g3, g4, h3⟩ := hlk'
  have h3' := h3
  obtain ⟨-, -, k3, k4, k5, k6, k7, k8, k9, k10⟩ := h3
  have hR2 := hR.resolve_right (fun q => q k10)
  have hgood := cw_good2 h3'
  have hMM := hM D cA ad H.size
  rw [show cw_r ic = none from g4] at hgood hMM
  rw [g4] at k3
  refine cw_callG (va_runI (b := ad a) (As := []) ⟨hx, hb, hml, hown, hts⟩ hMM (n := 0) ⟨⟨rfl, rfl, hR2.1, hR2.2, pay_in hts hgood, List.mem_cons_self, hts _ k3, hts _ k4, ⟨k7, k8⟩, fun sig hsig => ?_, hts _ g1⟩, g3, hts _ g2⟩ hpre rfl rfl hls rfl hWW hdg hk) hS (fun q _ h => hA1 q h) hA1 hkk
  rw [hsig] at k9; exact hn.symm.trans (Option.some.inj k9).symm
end LG
