/-! new cells, and calls that make some -/
def cw_up (ad : Nat → Nat) (n a : Nat) : Nat → Nat := fun k => if k = n then a else ad k
theorem cw_up_lt {ad : Nat → Nat} {n a : Nat} : ∀ k, k < n → cw_up ad n a k = ad k := fun k hk => if_neg (by omega)
def cw_wf (n : Nat) (lv : cw_LV) (st : List Value) (h : cw_H) : Prop := (∀ q ∈ lv, cw_wfv n q.2) ∧ (∀ v ∈ st, cw_wfv n v) ∧ ∀ q ∈ h, cw_wfe n q
theorem cw_w_eq {n : Nat} {h : cw_H} (hw : ∀ q ∈ h, cw_wfe n q) (hn : h.length ≤ n) {ad ad' : Nat → Nat} (e : ∀ k, k < n → ad' k = ad k) (cA : Nat → ClassId) : cw_w cA ad' h = cw_w cA ad h := by
  apply List.ext_getElem?
  intro j
  simp only [cw_w, List.getElem?_mapIdx]
  cases hj : h[j]? with
  | none => rfl
  | some q =>
    have := cw_lt hj
    simp only [Option.map_some]
    rw [e j (by omega), cw_wfe_eq (hw _ (List.mem_of_getElem? hj)) e cA]
theorem cw_L_eq {n : Nat} {lv : cw_LV} (hw : ∀ q ∈ lv, cw_wfv n q.2) {ad ad' : Nat → Nat} (e : ∀ k, k < n → ad' k = ad k) : cw_L ad' lv = cw_L ad lv := by
  apply List.map_congr_left
  intro q hq
  rw [cw_wfv_eq (hw q hq) e]
theorem cw_st_eq {n : Nat} {st : List Value} (hw : ∀ q ∈ st, cw_wfv n q) {ad ad' : Nat → Nat} (e : ∀ k, k < n → ad' k = ad k) : st.map (cw_v ad') = st.map (cw_v ad) := by
  apply List.map_congr_left
  intro q hq
  exact cw_wfv_eq (hw q hq) e
theorem cw_w_push (cA : Nat → ClassId) (ad : Nat → Nat) (h : cw_H) (q : cw_E) : cw_w cA ad (h ++ [q]) = cw_w cA ad h ++ [(ad h.length, cw_e cA ad q)] := by
  simp only [cw_w, List.mapIdx_append, List.mapIdx_cons, List.mapIdx_nil, Nat.zero_add]
theorem cw_new {l : Launch} {ii : cw_I} {mc ms : Nat} {h0 : cw_H} {r : Option Value} {h1 : cw_H} {kc ks pc idx ci : Nat} {lv : cw_LV} {st : List Value} {h : cw_H} (fs : List Value) (hi : cw_okD ii) (hk : kc + 1 ≤ mc ∧ ks + cw_cn ci ≤ ms) (hd : cw_look (cw_tb ii) pc = some (.new idx, 3)) (hn : cw_look (cw_news (cw_c ii)) idx = some ci)
    (hfs : ∀ j, j < cw_cn ci → defaultValue (cw_ty ci j) = vp_V fs j) (hfv : ∀ ad, fs.map (cw_v ad) = fs) (w : cw_wf h.length lv st h) (h0l : h0.length ≤ h.length) (h1l : h.length < h1.length)
    (kk : cw_W l ii mc ms h0 r h1 (kc + 1) (ks + cw_cn ci) (pc + 3) lv (.ref h.length :: st) (h ++ [.inr (ci, fs)])) : cw_W l ii mc ms h0 r h1 kc ks pc lv st h := by
  intro p e R s m args below meth c D cA ad0 hX hR1 hR2 ad H locs ls hkp hP hD hS hl
  have hX0 := hX
  obtain ⟨hx, hb, hml, hown, hts, hKs, hfr, hlo, hnm, hret, hlocks⟩ := hX
  have hdg := hi.1 _ (cw_look_mem hd)
  obtain ⟨h4, n1, n2, n3⟩ := cw_nok _ _ (cw_look_mem hn)
  refine va_new (ci := ci) (fs := fs) (C := cw_own ci) (T := cw_FT ci) (N := cw_cn ci) hx hb hts (cw_in_u ci h4) (cw_ty ci) (cw_tyok ci h4) hown (hts _ n1) (hts _ n2) (hts _ n3) hKs.1 hP hD hS (fun q hq => Or.inr hq) (cw_cl ci h4) hfs (by omega) (by omega) hdg (fun q H1 hP1 hD1 hS1 => ?_)
  have e1 : ∀ k, k < h.length → cw_up ad h.length q k = ad k := cw_up_lt
  have ew : cw_w cA (cw_up ad h.length q) (h ++ [.inr (ci, fs)]) = cw_w cA ad h ++ [(q, .inr (ci, fs))] := by
    rw [cw_w_push, cw_w_eq w.2.2 (Nat.le_refl _) e1]
    show cw_w cA ad h ++ [(cw_up ad h.length q h.length, Sum.inr (ci, fs.map (cw_v (cw_up ad h.length q))))] = _
    rw [hfv, show cw_up ad h.length q h.length = q from if_pos rfl]
  have := kk p e R s m args below meth c D cA ad0 hX0 hR1 hR2 (cw_up ad h.length q) H1 locs ls (fun k hk2 => by rw [← hkp k hk2]; exact if_neg (by omega)) (by rw [ew]; exact hP1) (by rw [ew]; exact hD1) hS1 (by rw [cw_L_eq w.1 e1]; exact hl)
  rw [List.map_cons, cw_st_eq w.2.1 e1] at this
  have e2 : cw_v (cw_up ad h.length q) (.ref h.length) = .ref q := congrArg Value.ref (if_pos rfl)
  rw [e2] at this
  exact this
theorem cw_newa {l : Launch} {ii : cw_I} {mc ms : Nat} {h0 : cw_H} {r : Option Value} {h1 : cw_H} {kc ks pc N : Nat} {lv : cw_LV} {st : List Value} {h : cw_H} (kd : Nat) (ty : ClassFile.ArrayType) (hkd : (kd = 0 ∧ ty = .int) ∨ (kd = 1 ∧ ty = .char)) (hi : cw_okD ii) (hk : kc + 1 ≤ mc ∧ ks + N ≤ ms) (hd : cw_look (cw_tb ii) pc = some (.newarray ty, 2)) (hN : N ≤ 65536)
    (w : cw_wf h.length lv st h) (h0l : h0.length ≤ h.length) (h1l : h.length < h1.length)
    (kk : cw_W l ii mc ms h0 r h1 (kc + 1) (ks + N) (pc + 2) lv (.ref h.length :: st) (h ++ [.inl (kd, N, .inl (fun _ => 0))])) : cw_W l ii mc ms h0 r h1 kc ks pc lv (.int (nI N) :: st) h := by
  intro p e R s m args below meth c D cA ad0 hX hR1 hR2 ad H locs ls hkp hP hD hS hl
  have hX0 := hX
  obtain ⟨hx, hb, hml, hown, hts, hKs, hfr, hlo, hnm, hret, hlocks⟩ := hX
  have hdg := hi.1 _ (cw_look_mem hd)
  have fin : ∀ (q : Nat) (H1 : Heap), va_P D vwCl (cw_w cA ad h ++ [(q, .inl (cA kd, N, .inl (fun _ => 0)))]) H1 → va_D (va_A (cw_w cA ad0 h0) s.heap.size) (cw_w cA ad h ++ [(q, .inl (cA kd, N, .inl (fun _ => 0)))]) → va_S (va_A (cw_w cA ad0 h0) s.heap.size) s.heap H1 locs → W p l e R s m args below meth c H1 locs (kc + 1) (ks + N) (MQ below (cw_Q D cA ad0 h0 r h1 (va_A (cw_w cA ad0 h0) s.heap.size)) args s mc ms (va_A (cw_w cA ad0 h0) s.heap.size)) (F0 m (pc + 2) ls (.ref q :: st.map (cw_v ad))) := by
    intro q H1 hP1 hD1 hS1
    have e1 : ∀ k, k < h.length → cw_up ad h.length q k = ad k := cw_up_lt
    have ew : cw_w cA (cw_up ad h.length q) (h ++ [.inl (kd, N, .inl (fun _ => 0))]) = cw_w cA ad h ++ [(q, .inl (cA kd, N, .inl (fun _ => 0)))] := by
      rw [cw_w_push, cw_w_eq w.2.2 (Nat.le_refl _) e1]
      show cw_w cA ad h ++ [(cw_up ad h.length q h.length, _)] = _
      rw [show cw_up ad h.length q h.length = q from if_pos rfl]
      rfl
    have := kk p e R s m args below meth c D cA ad0 hX0 hR1 hR2 (cw_up ad h.length q) H1 locs ls (fun k hk2 => by rw [← hkp k hk2]; exact if_neg (by omega)) (by rw [ew]; exact hP1) (by rw [ew]; exact hD1) hS1 (by rw [cw_L_eq w.1 e1]; exact hl)
    rw [List.map_cons, cw_st_eq w.2.1 e1] at this
    have e2 : cw_v (cw_up ad h.length q) (.ref h.length) = .ref q := congrArg Value.ref (if_pos rfl)
    rw [e2] at this
    exact this
  have hN0 : ¬ nI N < 0 := nI_pos (by omega)
  have hN1 : (nI N).toNatClampNeg = N := nI_clamp (by omega)
  rcases hkd with ⟨rfl, rfl⟩ | ⟨rfl, rfl⟩
  · refine va_newa (atype := .int) (ty := .int) (a0 := (N, .inl (fun _ => 0))) hx hb (hts _ cw_g_ai) rfl hKs.1 hP hD hS (fun q hq => Or.inr hq) (fun _ => rfl) hN0 hN1 (by show N * 4 ≤ _; omega) (by omega) (by omega) hdg (fun q cA' H1 hK1 hP1 hD1 hS1 => ?_)
    have ec : cA' = cA 0 := by
      have g1 : s.vm.findClass ("[" ++ FieldType.int.toString) = some cA' := (hK1.2 3 (cA', .int) rfl).2
      have g2 : s.vm.findClass ("[" ++ FieldType.int.toString) = some (cA 0) := (hKs.1.2 0 (cA 0, .int) rfl).2
      exact Option.some.inj (g1.symm.trans g2)
    subst ec
    exact fin q H1 hP1 hD1 hS1
  · refine va_newa (atype := .char) (ty := .char) (a0 := (N, .inl (fun _ => 0))) hx hb (hts _ cw_g_ac) rfl hKs.1 hP hD hS (fun q hq => Or.inr hq) (fun _ => rfl) hN0 hN1 (by show N * 2 ≤ _; omega) (by omega) (by omega) hdg (fun q cA' H1 hK1 hP1 hD1 hS1 => ?_)
    have ec : cA' = cA 1 := by
      have g1 : s.vm.findClass ("[" ++ FieldType.char.toString) = some cA' := (hK1.2 3 (cA', .char) rfl).2
      have g2 : s.vm.findClass ("[" ++ FieldType.char.toString) = some (cA 1) := (hKs.1.2 1 (cA 1, .char) rfl).2
      exact Option.some.inj (g1.symm.trans g2)
    subst ec
    exact fin q H1 hP1 hD1 hS1
theorem cw_newq {l : Launch} {ii : cw_I} {mc ms : Nat} {h0 : cw_H} {r : Option Value} {h1 : cw_H} {kc ks pc N idx : Nat} {lv : cw_LV} {st : List Value} {h : cw_H} (hi : cw_okD ii) (hk : kc + 1 ≤ mc ∧ ks + N ≤ ms) (hd : cw_look (cw_tb ii) pc = some (.anewarray idx, 3)) (hn : cw_look (cw_news (cw_c ii)) idx = some 1) (hN : N ≤ 65536)
    (w : cw_wf h.length lv st h) (h0l : h0.length ≤ h.length) (h1l : h.length < h1.length)
    (kk : cw_W l ii mc ms h0 r h1 (kc + 1) (ks + N) (pc + 3) lv (.ref h.length :: st) (h ++ [.inl (2, N, .inr (.inr (.inr (.inr (fun _ => none)))))])) : cw_W l ii mc ms h0 r h1 kc ks pc lv (.int (nI N) :: st) h := by
  intro p e R s m args below meth c D cA ad0 hX hR1 hR2 ad H locs ls hkp hP hD hS hl
  have hX0 := hX
  obtain ⟨hx, hb, hml, hown, hts, hKs, hfr, hlo, hnm, hret, hlocks⟩ := hX
  have hdg := hi.1 _ (cw_look_mem hd)
  have hN0 : ¬ nI N < 0 := nI_pos (by omega)
  have hN1 : (nI N).toNatClampNeg = N := nI_clamp (by omega)
  obtain ⟨h4, n1, n2, n3⟩ := cw_nok _ _ (cw_look_mem hn)
  refine va_newq (C := RX1) hx hb hown (hts _ n1) hKs.2.1 hKs.1 hP hD hS (fun q hq => Or.inr hq) hN0 hN1 (by omega) (by omega) (by omega) hdg (fun q cA' H1 hK1 hP1 hD1 hS1 => ?_)
  have ec : cA' = cA 2 := by
    obtain ⟨_, _, _, _, _, g1⟩ := (hK1.2 3 (cA', .object RX1) rfl).2
    obtain ⟨_, _, _, _, _, g2⟩ := (hKs.1.2 2 (cA 2, .object RX1) rfl).2
    exact Option.some.inj (g1.symm.trans g2)
  subst ec
  have e1 : ∀ k, k < h.length → cw_up ad h.length q k = ad k := cw_up_lt
  have ew : cw_w cA (cw_up ad h.length q) (h ++ [.inl (2, N, .inr (.inr (.inr (.inr (fun _ => none)))))]) = cw_w cA ad h ++ [(q, .inl (cA 2, N, .inr (.inr (.inr (.inr (fun _ => none))))))] := by
    rw [cw_w_push, cw_w_eq w.2.2 (Nat.le_refl _) e1]
    show cw_w cA ad h ++ [(cw_up ad h.length q h.length, _)] = _
    rw [show cw_up ad h.length q h.length = q from if_pos rfl]
    rfl
  have := kk p e R s m args below meth c D cA ad0 hX0 hR1 hR2 (cw_up ad h.length q) H1 locs ls (fun k hk2 => by rw [← hkp k hk2]; exact if_neg (by omega)) (by rw [ew]; exact hP1) (by rw [ew]; exact hD1) hS1 (by rw [cw_L_eq w.1 e1]; exact hl)
  rw [List.map_cons, cw_st_eq w.2.1 e1] at this
  have e2 : cw_v (cw_up ad h.length q) (.ref h.length) = .ref q := congrArg Value.ref (if_pos rfl)
  rw [e2] at this
  exact this
/-- an instance method that may make cells -/
theorem cw_callAV {l : Launch} {ii ic : cw_I} {mc ms mc' ms' : Nat} {h0 : cw_H} {r rr : Option Value} {h1 : cw_H} {kc ks pc idx kd a ci : Nat} {fs : List Value} {lv : cw_LV} {st rs : List Value} {h h' : cw_H} (hi : cw_okD ii) (hk : kc + mc' ≤ mc ∧ ks + ms' ≤ ms) (hd : cw_look (cw_tb ii) pc = some (.invokevirtual idx, 3)) (hc : cw_look (cw_cls (cw_c ii)) idx = some (kd, ic))
    (hkd : kd = 0 ∨ kd = 3) (hn : cw_na ic ≤ st.length) (hf : cw_f ic < cw_f ii) (hdr : st.drop (cw_na ic) = .ref a :: rs) (hW : (rs.map fun v => v.category).sum ≤ 8) (hcell : h[a]? = some (.inr (ci, fs))) (hci : ci = cw_c ic) (hci4 : ci < 3)
    (hM : cw_M l ic mc' ms' (.ref a :: (st.take (cw_na ic)).reverse) h r h') (hle : h.length ≤ h'.length) (h0l : h0.length ≤ h.length) (h1l : h'.length ≤ h1.length) (wl : ∀ q ∈ lv, cw_wfv h.length q.2) (wr : ∀ v ∈ rs, cw_wfv h.length v)
    (kk : cw_W l ii mc ms h0 rr h1 (kc + mc') (ks + ms') (pc + 3) lv (r.toList ++ rs) h') : cw_W l ii mc ms h0 rr h1 kc ks pc lv st h := by
  intro p e R s m args below meth c D cA ad0 hX hR1 hR2 ad H locs ls hkp hP hD hS hl
  have hX0 := hX
  obtain ⟨hx, hb, hml, hown, hts, hK, hfr, hlo, -⟩ := hX
  have hdg : decode (cw_b ii) pc = .ok (.invokevirtual idx, 3) := hi.1 (pc, .invokevirtual idx, 3) (cw_look_mem hd)
  have hlk : cw_okC (cw_c ii) idx kd ic := cw_clok (cw_c ii) (idx, kd, ic) (cw_look_mem hc)
  have hls : ls.size = cw_nL ii := hl.1
  subst hci
  have hA1 := cw_A1 hD hS (fun q hq => Or.inr hq)
  have hkk : ∀ (ad' : Nat → Nat) (H1 : Heap) (locs1 : List Loc), (∀ k, k < h.length ∨ h'.length ≤ k → ad' k = ad k) → va_P D vwCl (cw_w cA ad' h') H1 → va_D (va_A (cw_w cA ad h) H.size) (cw_w cA ad' h') → H.size ≤ H1.size → (∀ q : Nat, q < H.size → ¬ va_A (cw_w cA ad h) H.size q → H1[q]? = H[q]?) → va_S (va_A (cw_w cA ad0 h0) s.heap.size) s.heap H1 locs1 → W p l e R s m args below meth c H1 locs1 (kc + mc') (ks + ms') (MQ below (cw_Q D cA ad0 h0 rr h1 (va_A (cw_w cA ad0 h0) s.heap.size)) args s mc ms (va_A (cw_w cA ad0 h0) s.heap.size)) (F0 m (pc + 3) ls ((r.map (cw_v ad')).toList ++ rs.map (cw_v ad))) := by
    intro ad' H1 locs1 e1 hP1 hD1 _ _ hS1
    have e2 : ∀ k, k < h.length → ad' k = ad k := fun k hk2 => e1 k (Or.inl hk2)
    have := kk p e R s m args below meth c D cA ad0 hX0 hR1 hR2 ad' H1 locs1 ls (fun k hk2 => by rw [← hkp k hk2]; exact e1 k (by omega)) hP1 (hD1.weaken (fun _ _ _ h => hA1 _ h)) hS1 (by rw [cw_L_eq wl e2]; exact hl)
    rw [List.map_append, cw_st_eq wr e2] at this
    cases r <;> exact this
  have hst : st.map (cw_v ad) = (((st.take (cw_na ic)).reverse.map (cw_v ad))).reverse ++ .ref (ad a) :: rs.map (cw_v ad) := by
    have e0 : st.map (cw_v ad) = (st.take (cw_na ic)).map (cw_v ad) ++ (st.drop (cw_na ic)).map (cw_v ad) := by rw [← List.map_append, List.take_append_drop]
    rw [e0, hdr, List.map_reverse, List.reverse_reverse]
    rfl
  have hWW : 2 * (F0 m pc ls (st.map (cw_v ad))).monitorRoom + ((rs.map (cw_v ad)).map fun v => v.category).sum ≤ 8 := lv_room (by rw [cw_cats]; exact hW)
  have hln : ((st.take (cw_na ic)).reverse.map (cw_v ad)).length = cw_na ic := by simp; omega
  have hR : cw_f ic + 1 ≤ R.frames ∧ 8 + (cw_nL ic + 11) + 35 * cw_f ic ≤ R.locals ∨ ¬ cw_nL ic ≤ 16 := by
    by_cases h15 : cw_nL ic ≤ 16
    · left; constructor <;> omega
    · right; exact h15
  have hpre := cw_pre (i := ic) (av := .ref a :: (st.take (cw_na ic)).reverse) hK hP hD
  have hrecv := va_recv (ci := cw_c ic) (q0 := a) hK.1 hP (cw_cl (cw_c ic) hci4) (cw_w_get hcell)
  rcases hkd with rfl | rfl
  · have hlk' : Cond.methodLink (cw_own (cw_c ii)) idx ic.1 ∈ cw_T ∧ Cond.instanceMethod ic.1 ∈ cw_T ∧ Cond.selects ic.1.cls ic.1 ic.1 ∈ cw_T ∧ cw_okI ic := by
      rcases hlk with ⟨_, h⟩ | ⟨h, _⟩ | ⟨h, _⟩ | ⟨h, _⟩ | ⟨h, _⟩ | ⟨h, _⟩ | ⟨h, _⟩ | ⟨h, _⟩ | ⟨h, _⟩ <;> first | exact h | exact absurd h (by decide)
    obtain ⟨g1, g2, h2s, h3⟩ := hlk'
    have h3' := h3
    obtain ⟨-, -, k3, k4, k5, k6, k7, k8, k9, k10⟩ := h3
    have hR2 := hR.resolve_right (fun q => q k10)
    rw [k5] at h2s
    refine cw_callG (va_runV (C := cw_own (cw_c ic)) (b := ad a) (As := (st.take (cw_na ic)).reverse.map (cw_v ad)) ⟨hx, hb, hml, hown, hts⟩ (hM D cA ad H.size) (n := cw_na ic) ⟨⟨rfl, rfl, hR2.1, hR2.2, pay_in hts (cw_good2 h3'), List.mem_cons_self, hts _ k3, hts _ k4, ⟨k7, k8⟩, fun sig hsig => ?_, hts _ g1⟩, hts _ g2, hts _ h2s⟩ ⟨hpre.1, hrecv, hpre.2⟩ rfl hln hls hst hWW hdg ⟨by omega, by omega⟩) hS (fun q _ h => hA1 q h) hA1 hkk
    rw [hsig] at k9; exact (Option.some.inj k9).symm
  · have hlk' : (∃ host, Cond.methodLinkNest (cw_own (cw_c ii)) idx ic.1 host ∈ cw_N) ∧ Cond.instanceMethod ic.1 ∈ cw_T ∧ Cond.selects ic.1.cls ic.1 ic.1 ∈ cw_T ∧ cw_okI ic := by
      rcases hlk with ⟨h, _⟩ | ⟨h, _⟩ | ⟨h, _⟩ | ⟨_, h⟩ | ⟨h, _⟩ | ⟨h, _⟩ | ⟨h, _⟩ | ⟨h, _⟩ | ⟨h, _⟩ <;> first | exact h | exact absurd h (by decide)
    obtain ⟨⟨host, g1⟩, g2, h2s, h3⟩ := hlk'
    have h3' := h3
    obtain ⟨-, -, k3, k4, k5, k6, k7, k8, k9, k10⟩ := h3
    have hR2 := hR.resolve_right (fun q => q k10)
    rw [k5] at h2s
    refine cw_callG (va_runVN (C := cw_own (cw_c ic)) (b := ad a) (As := (st.take (cw_na ic)).reverse.map (cw_v ad)) ⟨hx, hb, hml, hown, hts⟩ (hM D cA ad H.size) (n := cw_na ic) (host := host) ⟨⟨⟨rfl, rfl, hR2.1, hR2.2, pay_in hts (cw_good2 h3'), List.mem_cons_self⟩, hts _ k3, hts _ k4, ⟨k7, k8⟩, fun sig hsig => ?_, va_Nw.use rfl (hK.2.2 _ g1)⟩, hts _ g2, hts _ h2s⟩ ⟨hpre.1, hrecv, hpre.2⟩ rfl hln hls hst hWW hdg ⟨by omega, by omega⟩) hS (fun q _ h => hA1 q h) hA1 hkk
    rw [hsig] at k9; exact (Option.some.inj k9).symm
/-- a constructor -/
theorem cw_callAI {l : Launch} {ii ic : cw_I} {mc ms mc' ms' : Nat} {h0 : cw_H} {rr : Option Value} {h1 : cw_H} {kc ks pc idx kd a : Nat} {lv : cw_LV} {rs : List Value} {h h' : cw_H} (hi : cw_okD ii) (hk : kc + mc' ≤ mc ∧ ks + ms' ≤ ms) (hd : cw_look (cw_tb ii) pc = some (.invokespecial idx, 3)) (hc : cw_look (cw_cls (cw_c ii)) idx = some (kd, ic))
    (hkd : kd = 2 ∨ kd = 5) (hn : cw_na ic = 0) (hf : cw_f ic < cw_f ii) (hW : (rs.map fun v => v.category).sum ≤ 8)
    (hM : cw_M l ic mc' ms' [.ref a] h none h') (hle : h.length ≤ h'.length) (h0l : h0.length ≤ h.length) (h1l : h'.length ≤ h1.length) (wl : ∀ q ∈ lv, cw_wfv h.length q.2) (wr : ∀ v ∈ rs, cw_wfv h.length v)
    (kk : cw_W l ii mc ms h0 rr h1 (kc + mc') (ks + ms') (pc + 3) lv rs h') : cw_W l ii mc ms h0 rr h1 kc ks pc lv (.ref a :: rs) h := by
  intro p e R s m args below meth c D cA ad0 hX hR1 hR2 ad H locs ls hkp hP hD hS hl
  have hX0 := hX
  obtain ⟨hx, hb, hml, hown, hts, hK, hfr, hlo, -⟩ := hX
  have hdg : decode (cw_b ii) pc = .ok (.invokespecial idx, 3) := hi.1 (pc, .invokespecial idx, 3) (cw_look_mem hd)
  have hlk : cw_okC (cw_c ii) idx kd ic := cw_clok (cw_c ii) (idx, kd, ic) (cw_look_mem hc)
  have hls : ls.size = cw_nL ii := hl.1
  have hA1 := cw_A1 hD hS (fun q hq => Or.inr hq)
  have hkk : ∀ (ad' : Nat → Nat) (H1 : Heap) (locs1 : List Loc), (∀ k, k < h.length ∨ h'.length ≤ k → ad' k = ad k) → va_P D vwCl (cw_w cA ad' h') H1 → va_D (va_A (cw_w cA ad h) H.size) (cw_w cA ad' h') → H.size ≤ H1.size → (∀ q : Nat, q < H.size → ¬ va_A (cw_w cA ad h) H.size q → H1[q]? = H[q]?) → va_S (va_A (cw_w cA ad0 h0) s.heap.size) s.heap H1 locs1 → W p l e R s m args below meth c H1 locs1 (kc + mc') (ks + ms') (MQ below (cw_Q D cA ad0 h0 rr h1 (va_A (cw_w cA ad0 h0) s.heap.size)) args s mc ms (va_A (cw_w cA ad0 h0) s.heap.size)) (F0 m (pc + 3) ls (((none : Option Value).map (cw_v ad')).toList ++ rs.map (cw_v ad))) := by
    intro ad' H1 locs1 e1 hP1 hD1 _ _ hS1
    have e2 : ∀ k, k < h.length → ad' k = ad k := fun k hk2 => e1 k (Or.inl hk2)
    have := kk p e R s m args below meth c D cA ad0 hX0 hR1 hR2 ad' H1 locs1 ls (fun k hk2 => by rw [← hkp k hk2]; exact e1 k (by omega)) hP1 (hD1.weaken (fun _ _ _ h => hA1 _ h)) hS1 (by rw [cw_L_eq wl e2]; exact hl)
    rw [cw_st_eq wr e2] at this
    exact this
  have hWW : 2 * (F0 m pc ls ((Value.ref a :: rs).map (cw_v ad))).monitorRoom + ((rs.map (cw_v ad)).map fun v => v.category).sum ≤ 8 := lv_room (by rw [cw_cats]; exact hW)
  have hR : cw_f ic + 1 ≤ R.frames ∧ 8 + (cw_nL ic + 11) + 35 * cw_f ic ≤ R.locals ∨ ¬ cw_nL ic ≤ 16 := by
    by_cases h15 : cw_nL ic ≤ 16
    · left; constructor <;> omega
    · right; exact h15
  have hpre := cw_pre (i := ic) (av := [.ref a]) hK hP hD
  rcases hkd with rfl | rfl
  · have hlk' : Cond.methodLink (cw_own (cw_c ii)) idx ic.1 ∈ cw_T ∧ Cond.instanceMethod ic.1 ∈ cw_T ∧ ic.1.name = "<init>" ∧ ic.2.2.2.1 = none ∧ cw_okI ic := by
      rcases hlk with ⟨h, _⟩ | ⟨h, _⟩ | ⟨_, h⟩ | ⟨h, _⟩ | ⟨h, _⟩ | ⟨h, _⟩ | ⟨h, _⟩ | ⟨h, _⟩ | ⟨h, _⟩ <;> first | exact h | exact absurd h (by decide)
    obtain ⟨g1, g2, g3, g4, h3⟩ := hlk'
    have h3' := h3
    obtain ⟨-, -, k3, k4, k5, k6, k7, k8, k9, k10⟩ := h3
    have hR2 := hR.resolve_right (fun q => q k10)
    have hgood := cw_good2 h3'
    have hMM := hM D cA ad H.size
    rw [show cw_r ic = none from g4] at hgood hMM
    rw [g4] at k3
    refine cw_callG (va_runI (b := ad a) (As := []) ⟨hx, hb, hml, hown, hts⟩ hMM (n := 0) ⟨⟨rfl, rfl, hR2.1, hR2.2, pay_in hts hgood, List.mem_cons_self, hts _ k3, hts _ k4, ⟨k7, k8⟩, fun sig hsig => ?_, hts _ g1⟩, g3, hts _ g2⟩ hpre rfl rfl hls rfl hWW hdg ⟨by omega, by omega⟩) hS (fun q _ h => hA1 q h) hA1 hkk
    rw [hsig] at k9; exact hn.symm.trans (Option.some.inj k9).symm
  · have hlk' : (∃ host, Cond.methodLinkNest (cw_own (cw_c ii)) idx ic.1 host ∈ cw_N) ∧ Cond.instanceMethod ic.1 ∈ cw_T ∧ ic.1.name = "<init>" ∧ ic.2.2.2.1 = none ∧ cw_okI ic := by
      rcases hlk with ⟨h, _⟩ | ⟨h, _⟩ | ⟨h, _⟩ | ⟨h, _⟩ | ⟨h, _⟩ | ⟨_, h⟩ | ⟨h, _⟩ | ⟨h, _⟩ | ⟨h, _⟩ <;> first | exact h | exact absurd h (by decide)
    obtain ⟨⟨host, g1⟩, g2, g3, g4, h3⟩ := hlk'
    have h3' := h3
    obtain ⟨-, -, k3, k4, k5, k6, k7, k8, k9, k10⟩ := h3
    have hR2 := hR.resolve_right (fun q => q k10)
    have hgood := cw_good2 h3'
    have hMM := hM D cA ad H.size
    rw [show cw_r ic = none from g4] at hgood hMM
    rw [g4] at k3
    refine cw_callG (va_runIN (b := ad a) (As := []) ⟨hx, hb, hml, hown, hts⟩ hMM (n := 0) (host := host) ⟨⟨⟨rfl, rfl, hR2.1, hR2.2, pay_in hts hgood, List.mem_cons_self⟩, hts _ k3, hts _ k4, ⟨k7, k8⟩, fun sig hsig => ?_, va_Nw.use rfl (hK.2.2 _ g1)⟩, g3, hts _ g2⟩ hpre rfl rfl hls rfl hWW hdg ⟨by omega, by omega⟩) hS (fun q _ h => hA1 q h) hA1 hkk
    rw [hsig] at k9; exact hn.symm.trans (Option.some.inj k9).symm
/-- places below n, by program (rows of references aside) -/
def cw_wfvb (n : Nat) (v : Value) : Bool := match v with
  | .ref k => Nat.blt k n
  | _ => true
def cw_wfeb (n : Nat) (q : cw_E) : Bool := match q with
  | .inl (_, (_, .inr (.inr (.inr (.inr _))))) => false
  | .inl _ => true
  | .inr o => o.2.all (cw_wfvb n)
theorem cw_wfvb_ok {n : Nat} {v : Value} (h : cw_wfvb n v = true) : cw_wfv n v := by
  cases v with
  | ref k => exact Nat.le_of_ble_eq_true h
  | _ => trivial
theorem cw_wfeb_ok {n : Nat} {q : cw_E} (h : cw_wfeb n q = true) : cw_wfe n q := by
  obtain ⟨a, n2, f | f | f | f | f⟩ | o := q
  · trivial
  · trivial
  · trivial
  · trivial
  · cases h
  · exact fun v hv => cw_wfvb_ok (List.all_eq_true.mp h v hv)
theorem cw_wfb_ok {n : Nat} {lv : cw_LV} {st : List Value} {h : cw_H} (e : (lv.all (fun q => cw_wfvb n q.2) && (st.all (cw_wfvb n) && h.all (cw_wfeb n))) = true) : cw_wf n lv st h := by
  simp only [Bool.and_eq_true] at e
  exact ⟨fun q hq => cw_wfvb_ok (List.all_eq_true.mp e.1 q hq), fun v hv => cw_wfvb_ok (List.all_eq_true.mp e.2.1 v hv), fun q hq => cw_wfeb_ok (List.all_eq_true.mp e.2.2 q hq)⟩
theorem cw_re_wf {n b : Nat} {q : cw_E} (h : cw_wfe n q) : cw_wfe (b + n) (cw_re (fun k => b + k) q) := by
  obtain ⟨a, n2, f | f | f | f | f⟩ | o := q
  · trivial
  · trivial
  · trivial
  · trivial
  · intro j k hj
    obtain ⟨k2, h1, h2⟩ := Option.map_eq_some_iff.mp (show (f j).map (fun k => b + k) = some k from hj)
    have := h j k2 h1
    omega
  · intro v hv
    obtain ⟨w, h1, rfl⟩ := List.mem_map.mp hv
    have := h w h1
    cases w with
    | ref k => exact Nat.add_lt_add_left this b
    | _ => trivial
/-- a contract that makes cells, where the small heap is the end of the larger one -/
theorem cw_liftA {l : Launch} {i : cw_I} {mc ms : Nat} {av : List Value} {hc : cw_H} {r : Option Value} {hc' : cw_H} (hM : cw_M l i mc ms av hc r hc') (hl : hc.length ≤ hc'.length) (A : cw_H) {b : Nat} (hb : A.length = b)
    (hwc : ∀ q ∈ hc', cw_wfe hc'.length q) (hwh : ∀ q ∈ hc, cw_wfe hc.length q) (hwA : ∀ q ∈ A, cw_wfe (b + hc.length) q) (hwr : ∀ v, r = some v → cw_wfv hc'.length v) :
    cw_M l i mc ms (av.map (cw_v (fun k => b + k))) (A ++ hc.map (cw_re (fun k => b + k))) (r.map (cw_v (fun k => b + k))) (A ++ hc'.map (cw_re (fun k => b + k))) := by
  have hg : ∀ (X : cw_H) (k : Nat) (q : cw_E), X[k]? = some q → (A ++ X.map (cw_re (fun k => b + k)))[b + k]? = some (cw_re (fun k => b + k) q) := by
    intro X k q e
    rw [List.getElem?_append_right (by omega), show b + k - A.length = k by omega, List.getElem?_map, e]
    rfl
  refine cw_frameA hM (fun k => b + k) hl (by simp; omega) (hg hc) (fun j k _ _ e => by simpa using e) (fun k h1 h2 => by simp; omega) (hg hc') (fun j hj hn => ?_) hwc ?_ hwr
  · have h1 : j < b := by
      rcases Nat.lt_or_ge j b with z | z
      · exact z
      · simp at hj
        exact absurd (by omega : b + (j - b) = j) (hn (j - b) (by omega))
    rw [List.getElem?_append_left (by omega), List.getElem?_append_left (by omega)]
  · intro q hq
    have e : (A ++ hc.map (cw_re (fun k => b + k))).length = b + hc.length := by simp [hb]
    rw [e]
    rcases List.mem_append.mp hq with h1 | h1
    · exact hwA q h1
    · obtain ⟨q2, h2, rfl⟩ := List.mem_map.mp h1
      exact cw_re_wf (hwh q2 h2)
