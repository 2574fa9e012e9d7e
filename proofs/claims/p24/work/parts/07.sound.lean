/-! what the abstract machine does, the machine does -/
def cw_X (i : cw_I) (p : Program) (R : Room) (s : State) (m : MethodId) (args : Array Value) (meth : Method) (c : Code) (D : va_G) (cA : Nat → ClassId) : Prop :=
  p.tables.exec = Jvm.exec ∧ c.code = cw_b i ∧ c.maxLocals = cw_nL i ∧ s.vm.findClass (cw_own (cw_c i)) = some m.cls ∧ (∀ w ∈ cw_T, w.before args s = true) ∧ cw_K D cA s ∧ (1 ≤ cw_f i ∧ cw_f i ≤ R.frames) ∧ 35 * cw_f i ≤ R.locals ∧ (i.1.name = "<init>" → meth.name = "<init>") ∧ meth.sig.returnType = cw_r i ∧ meth.locks = false
def cw_G (p : Program) (l : Launch) (e : Env) (R : Room) (s : State) (m : MethodId) (args : Array Value) (below : List Frame) (meth : Method) (c : Code) (D : va_G) (cA : Nat → ClassId) (A : Nat → Prop) (keep : Nat → Prop) (ad0 : Nat → Nat) (Q : State → Prop) (nL kc ks pc : Nat) (lv : cw_LV) (st : List Value) (h : cw_H) : Prop :=
  ∀ (ad : Nat → Nat) (H : Heap) (locs : List Loc) (ls : Array Slot), (∀ k, keep k → ad k = ad0 k) → va_P D vwCl (cw_w cA ad h) H → va_D A (cw_w cA ad h) → va_S A s.heap H locs → lv_has ls nL (cw_L ad lv) → W p l e R s m args below meth c H locs kc ks Q (F0 m pc ls (st.map (cw_v ad)))
theorem cw_good2 {i : cw_I} (h : cw_okI i) : GoodIn cw_T (Cond.code i.1 (cw_b i) (cw_nL i) (cw_r i) :: cw_T) := fun w hw => (List.mem_cons.mp hw).elim (fun q => q ▸ cw_TT _ h.2.2.1) (cw_TT w)
section CWS
variable {p : Program} {l : Launch} {e : Env} {R : Room} {s : State} {m : MethodId} {args : Array Value} {below : List Frame} {meth : Method} {c : Code} {D : va_G} {cA : Nat → ClassId} {A : Nat → Prop} {keep : Nat → Prop} {ad0 : Nat → Nat} {Q : State → Prop}
theorem cw_callG {H : Heap} {locs : List Loc} {cells slots mc ms pc : Nat} {ls : Array Slot} {st0 rest : List Value} {ad : Nat → Nat} {h h' : cw_H} {r : Option Value} {A0 A1 : Nat → Prop} {a : Array Value} {free : Addr → Prop}
    (hr : va_Run p l e R s m args below meth c H locs cells slots mc ms (F0 m pc ls st0) rest (cw_Q D cA ad h r h' A1 a) free) (hS : va_S A0 s.heap H locs) (hA : ∀ q, q < H.size → A1 q → A0 q) (hf : ∀ q, free q → A0 q)
    (kk : ∀ (ad' : Nat → Nat) (H1 : Heap) (locs1 : List Loc), (∀ k, k < h.length ∨ h'.length ≤ k → ad' k = ad k) → va_P D vwCl (cw_w cA ad' h') H1 → va_D A1 (cw_w cA ad' h') → H.size ≤ H1.size → (∀ q : Nat, q < H.size → ¬ A1 q → H1[q]? = H[q]?) → va_S A0 s.heap H1 locs1 → W p l e R s m args below meth c H1 locs1 (cells + mc) (slots + ms) Q (F0 m (pc + 3) ls ((r.map (cw_v ad')).toList ++ rest))) : W p l e R s m args below meth c H locs cells slots Q (F0 m pc ls st0) := by
  intro T hT X
  obtain ⟨v, st₀, t, T', L, h0, X', hL, e1, e2, ⟨⟨ad', hv, hq, hp, hb⟩, hz, hk⟩, st⟩ := hr T hT X
  cases hq
  rw [h0] at hz hk
  obtain ⟨t2, a1, b1⟩ := kk ad' T'.heap (locs ++ L) hv (by rw [e1]; exact hp) hb (by rw [e1]; exact hz) (fun q h1 h2 => by rw [e1]; exact hk q h1 h2)
    ⟨Nat.le_trans hS.1 (by rw [e1]; exact hz), fun q h1 h2 => by rw [e1, hk q (Nat.lt_of_lt_of_le h1 hS.1) (fun z => h2 (hA q (Nat.lt_of_lt_of_le h1 hS.1) z))]; exact hS.2.1 q h1 h2, fun q hq => by
      rcases List.mem_append.mp hq with h | h
      · exact hS.2.2 q h
      · exact hf _ (hL q h)⟩ T' rfl X'
  exact ⟨t2, st t2 a1, b1⟩
theorem cw_pre {i : cw_I} {ad : Nat → Nat} {h : cw_H} {H : Heap} {av : List Value} (hK : cw_K D cA s) (hP : va_P D vwCl (cw_w cA ad h) H) (hD : va_D A (cw_w cA ad h)) :
    FrameBlind (va_Pc (av.map (cw_v ad)) (fun U => U.heap.size = H.size ∧ va_P D vwCl (cw_w cA ad h) U.heap ∧ cw_K D cA U ∧ va_D (fun _ => True) (cw_w cA ad h))) ∧ ∀ U : State, U.heap = H → s.WarmedH U.vm → va_Pc (av.map (cw_v ad)) (fun U => U.heap.size = H.size ∧ va_P D vwCl (cw_w cA ad h) U.heap ∧ cw_K D cA U ∧ va_D (fun _ => True) (cw_w cA ad h)) (av.map (cw_v ad)).toArray U :=
  ⟨fun a U g mk q => ⟨q.1, q.2.1, q.2.2.1, q.2.2.2.1.calling g mk a, q.2.2.2.2⟩, fun U hU hW => ⟨rfl, by rw [hU], by rw [hU]; exact hP, hK.warm hW, hD.weaken (fun _ _ _ _ => trivial)⟩⟩
theorem cw_A1 {ad : Nat → Nat} {h : cw_H} {H : Heap} {locs : List Loc} (hD : va_D A (cw_w cA ad h)) (hS : va_S A s.heap H locs) (hAs : ∀ q, s.heap.size ≤ q → A q) : ∀ q, va_A (cw_w cA ad h) H.size q → A q := by
  intro q hq
  rcases hq with ⟨k, x, hx⟩ | hq
  · exact hD.2 k _ hx
  · exact hAs q (Nat.le_trans hS.1 hq)
/-- a call on the heap as it is, that makes nothing: of a static method -/
theorem cw_callS {ii ic : cw_I} {idx kd pc : Nat} {ad : Nat → Nat} {h h' : cw_H} {r : Option Value} {st : List Value} {H : Heap} {locs : List Loc} {kc ks : Nat} {ls : Array Slot}
    (hX : cw_X ii p R s m args meth c D cA) (hk : kc ≤ R.cells ∧ ks ≤ R.slots) (hAs : ∀ q, s.heap.size ≤ q → A q) (hd : decode (cw_b ii) pc = .ok (.invokestatic idx, 3)) (hlk : cw_okC (cw_c ii) idx kd ic) (hkd : kd = 1 ∨ kd = 4) (hn : cw_na ic ≤ st.length) (hf : cw_f ic < cw_f ii) (hW : ((st.drop (cw_na ic)).map fun v => v.category).sum ≤ 8) (hlen : h'.length ≤ h.length)
    (hM : cw_M l ic 0 0 (st.take (cw_na ic)).reverse h r h') (hP : va_P D vwCl (cw_w cA ad h) H) (hD : va_D A (cw_w cA ad h)) (hS : va_S A s.heap H locs) (hls : ls.size = cw_nL ii)
    (kk : ∀ (H1 : Heap) (locs1 : List Loc), va_P D vwCl (cw_w cA ad h') H1 → va_D A (cw_w cA ad h') → va_S A s.heap H1 locs1 → W p l e R s m args below meth c H1 locs1 kc ks Q (F0 m (pc + 3) ls ((r.toList ++ st.drop (cw_na ic)).map (cw_v ad)))) : W p l e R s m args below meth c H locs kc ks Q (F0 m pc ls (st.map (cw_v ad))) := by
  obtain ⟨hx, hb, hml, hown, hts, hK, hfr, hlo, -⟩ := hX
  have hA1 := cw_A1 hD hS hAs
  have hkk : ∀ (ad' : Nat → Nat) (H1 : Heap) (locs1 : List Loc), (∀ k, k < h.length ∨ h'.length ≤ k → ad' k = ad k) → va_P D vwCl (cw_w cA ad' h') H1 → va_D (va_A (cw_w cA ad h) H.size) (cw_w cA ad' h') → H.size ≤ H1.size → (∀ q : Nat, q < H.size → ¬ va_A (cw_w cA ad h) H.size q → H1[q]? = H[q]?) → va_S A s.heap H1 locs1 → W p l e R s m args below meth c H1 locs1 (kc + 0) (ks + 0) Q (F0 m (pc + 3) ls ((r.map (cw_v ad')).toList ++ (st.drop (cw_na ic)).map (cw_v ad))) := by
    intro ad' H1 locs1 e1 hP1 hD1 _ _ hS1
    have e2 : ad' = ad := funext fun k => e1 k (by omega)
    subst e2
    have := kk H1 locs1 hP1 (hD1.weaken (fun _ _ _ h => hA1 _ h)) hS1
    rw [List.map_append] at this
    cases r <;> exact this
  have hst : st.map (cw_v ad) = (((st.take (cw_na ic)).reverse.map (cw_v ad))).reverse ++ (st.drop (cw_na ic)).map (cw_v ad) := by
    rw [List.map_reverse, List.reverse_reverse, ← List.map_append, List.take_append_drop]
  have hWW : 2 * (F0 m pc ls (st.map (cw_v ad))).monitorRoom + (((st.drop (cw_na ic)).map (cw_v ad)).map fun v => v.category).sum ≤ 8 := lv_room (by rw [cw_cats]; exact hW)
  have hln : ((st.take (cw_na ic)).reverse.map (cw_v ad)).length = cw_na ic := by simp; omega
  have hR : cw_f ic + 1 ≤ R.frames ∧ 8 + (cw_nL ic + 11) + 35 * cw_f ic ≤ R.locals ∨ ¬ cw_nL ic ≤ 16 := by
    by_cases h15 : cw_nL ic ≤ 16
    · left; constructor <;> omega
    · right; exact h15
  rcases hkd with rfl | rfl
  · have hlk' : Cond.methodLink (cw_own (cw_c ii)) idx ic.1 ∈ cw_T ∧ Cond.static ic.1 ∈ cw_T ∧ cw_okI ic := by
      rcases hlk with ⟨h, _⟩ | ⟨_, h⟩ | ⟨h, _⟩ | ⟨h, _⟩ | ⟨h, _⟩ | ⟨h, _⟩ | ⟨h, _⟩ | ⟨h, _⟩ | ⟨h, _⟩ <;> first | exact h | exact absurd h (by decide)
    obtain ⟨h1, h2, h3⟩ := hlk'
    have h3' := h3
    obtain ⟨-, -, k3, k4, k5, k6, k7, k8, k9, k10⟩ := h3
    have hR2 := hR.resolve_right (fun q => q k10)
    refine cw_callG (va_runS (As := (st.take (cw_na ic)).reverse.map (cw_v ad)) ⟨hx, hb, hml, hown, hts⟩ (hM D cA ad H.size) (n := cw_na ic) ⟨⟨rfl, rfl, hR2.1, hR2.2, pay_in hts (cw_good2 h3'), List.mem_cons_self, hts _ k3, hts _ k4, ⟨k7, k8⟩, fun sig hsig => ?_, hts _ h1⟩, hts _ h2⟩ (cw_pre (i := ic) hK hP hD) rfl hln hls hst hWW hd ⟨hk.1, hk.2⟩) hS (fun q _ h => hA1 q h) hA1 hkk
    rw [hsig] at k9; exact (Option.some.inj k9).symm
  · have hlk' : (∃ host, Cond.methodLinkNest (cw_own (cw_c ii)) idx ic.1 host ∈ cw_N) ∧ Cond.static ic.1 ∈ cw_T ∧ cw_okI ic := by
      rcases hlk with ⟨h, _⟩ | ⟨h, _⟩ | ⟨h, _⟩ | ⟨h, _⟩ | ⟨_, h⟩ | ⟨h, _⟩ | ⟨h, _⟩ | ⟨h, _⟩ | ⟨h, _⟩ <;> first | exact h | exact absurd h (by decide)
    obtain ⟨⟨host, h1⟩, h2, h3⟩ := hlk'
    have h3' := h3
    obtain ⟨-, -, k3, k4, k5, k6, k7, k8, k9, k10⟩ := h3
    have hR2 := hR.resolve_right (fun q => q k10)
    refine cw_callG (va_runSN (As := (st.take (cw_na ic)).reverse.map (cw_v ad)) ⟨hx, hb, hml, hown, hts⟩ (hM D cA ad H.size) (n := cw_na ic) (host := host) ⟨⟨⟨rfl, rfl, hR2.1, hR2.2, pay_in hts (cw_good2 h3'), List.mem_cons_self⟩, hts _ k3, hts _ k4, ⟨k7, k8⟩, fun sig hsig => ?_, va_Nw.use rfl (hK.2.2 _ h1)⟩, hts _ h2, trivial⟩ (cw_pre (i := ic) hK hP hD) rfl hln hls hst hWW hd ⟨hk.1, hk.2⟩) hS (fun q _ h => hA1 q h) hA1 hkk
    rw [hsig] at k9; exact (Option.some.inj k9).symm
/-- the same of an instance method -/
theorem cw_callV {ii ic : cw_I} {idx kd pc a ci : Nat} {fs : List Value} {ad : Nat → Nat} {h h' : cw_H} {r : Option Value} {st rs : List Value} {H : Heap} {locs : List Loc} {kc ks : Nat} {ls : Array Slot}
    (hX : cw_X ii p R s m args meth c D cA) (hk : kc ≤ R.cells ∧ ks ≤ R.slots) (hAs : ∀ q, s.heap.size ≤ q → A q) (hd : decode (cw_b ii) pc = .ok (.invokevirtual idx, 3)) (hlk : cw_okC (cw_c ii) idx kd ic) (hkd : kd = 0 ∨ kd = 3) (hn : cw_na ic ≤ st.length) (hf : cw_f ic < cw_f ii) (hdr : st.drop (cw_na ic) = .ref a :: rs) (hW : (rs.map fun v => v.category).sum ≤ 8) (hlen : h'.length ≤ h.length) (hcell : h[a]? = some (.inr (ci, fs))) (hci : ci = cw_c ic) (hci4 : ci < 3)
    (hM : cw_M l ic 0 0 (.ref a :: (st.take (cw_na ic)).reverse) h r h') (hP : va_P D vwCl (cw_w cA ad h) H) (hD : va_D A (cw_w cA ad h)) (hS : va_S A s.heap H locs) (hls : ls.size = cw_nL ii)
    (kk : ∀ (H1 : Heap) (locs1 : List Loc), va_P D vwCl (cw_w cA ad h') H1 → va_D A (cw_w cA ad h') → va_S A s.heap H1 locs1 → W p l e R s m args below meth c H1 locs1 kc ks Q (F0 m (pc + 3) ls ((r.toList ++ rs).map (cw_v ad)))) : W p l e R s m args below meth c H locs kc ks Q (F0 m pc ls (st.map (cw_v ad))) := by
  subst hci
  obtain ⟨hx, hb, hml, hown, hts, hK, hfr, hlo, -⟩ := hX
  have hA1 := cw_A1 hD hS hAs
  have hkk : ∀ (ad' : Nat → Nat) (H1 : Heap) (locs1 : List Loc), (∀ k, k < h.length ∨ h'.length ≤ k → ad' k = ad k) → va_P D vwCl (cw_w cA ad' h') H1 → va_D (va_A (cw_w cA ad h) H.size) (cw_w cA ad' h') → H.size ≤ H1.size → (∀ q : Nat, q < H.size → ¬ va_A (cw_w cA ad h) H.size q → H1[q]? = H[q]?) → va_S A s.heap H1 locs1 → W p l e R s m args below meth c H1 locs1 (kc + 0) (ks + 0) Q (F0 m (pc + 3) ls ((r.map (cw_v ad')).toList ++ rs.map (cw_v ad))) := by
    intro ad' H1 locs1 e1 hP1 hD1 _ _ hS1
    have e2 : ad' = ad := funext fun k => e1 k (by omega)
    subst e2
    have := kk H1 locs1 hP1 (hD1.weaken (fun _ _ _ h => hA1 _ h)) hS1
    rw [List.map_append] at this
    cases r <;> exact this
  have hst : st.map (cw_v ad) = (((st.take (cw_na ic)).reverse.map (cw_v ad))).reverse ++ .ref (ad a) :: rs.map (cw_v ad) := by
    have e0 : st.map (cw_v ad) = (st.take (cw_na ic)).map (cw_v ad) ++ (st.drop (cw_na ic)).map (cw_v ad) := by rw [← List.map_append, List.take_append_drop]
    rw [e0, hdr, List.map_reverse, List.reverse_reverse]
    rfl
  have hWW : 2 * (F0 m pc ls (st.map (cw_v ad))).monitorRoom + ((rs.map (cw_v ad)).map fun v => v.category).sum ≤ 8 := lv_room (by rw [cw_cats]; exact hW)
  have hln : ((st.take (cw_na ic)).reverse.map (cw_v ad)).length = cw_na ic := by simp; omega
  have hR : cw_f ic + 1 ≤ R.frames ∧ 8 + (cw_nL ic + 11) + 35 * cw_f ic ≤ R.locals ∨ ¬ cw_nL ic ≤ 16 := by
    by_cases h15 : cw_nL ic ≤ 16
    · left; constructor <;> omega
    · right; exact h15
  have hpre := cw_pre (i := ic) (av := .ref a :: (st.take (cw_na ic)).reverse) hK hP hD
  have hrecv := va_recv (ci := cw_c ic) (q0 := a) hK.1 hP (cw_cl (cw_c ic) hci4) (cw_w_get hcell)
  rcases hkd with rfl | rfl
  · have hlk' : Cond.methodLink (cw_own (cw_c ii)) idx ic.1 ∈ cw_T ∧ Cond.instanceMethod ic.1 ∈ cw_T ∧ Cond.selects ic.1.cls ic.1 ic.1 ∈ cw_T ∧ cw_okI ic := by
      rcases hlk with ⟨_, h⟩ | ⟨h, _⟩ | ⟨h, _⟩ | ⟨h, _⟩ | ⟨h, _⟩ | ⟨h, _⟩ | ⟨h, _⟩ | ⟨h, _⟩ | ⟨h, _⟩ <;> first | exact h | exact absurd h (by decide)
    obtain ⟨h1, h2, h2s, h3⟩ := hlk'
    have h3' := h3
    obtain ⟨-, -, k3, k4, k5, k6, k7, k8, k9, k10⟩ := h3
    have hR2 := hR.resolve_right (fun q => q k10)
    rw [k5] at h2s
    refine cw_callG (va_runV (C := cw_own (cw_c ic)) (b := ad a) (As := (st.take (cw_na ic)).reverse.map (cw_v ad)) ⟨hx, hb, hml, hown, hts⟩ (hM D cA ad H.size) (n := cw_na ic) ⟨⟨rfl, rfl, hR2.1, hR2.2, pay_in hts (cw_good2 h3'), List.mem_cons_self, hts _ k3, hts _ k4, ⟨k7, k8⟩, fun sig hsig => ?_, hts _ h1⟩, hts _ h2, hts _ h2s⟩ ⟨hpre.1, hrecv, hpre.2⟩ rfl hln hls hst hWW hd ⟨hk.1, hk.2⟩) hS (fun q _ h => hA1 q h) hA1 hkk
    rw [hsig] at k9; exact (Option.some.inj k9).symm
  · have hlk' : (∃ host, Cond.methodLinkNest (cw_own (cw_c ii)) idx ic.1 host ∈ cw_N) ∧ Cond.instanceMethod ic.1 ∈ cw_T ∧ Cond.selects ic.1.cls ic.1 ic.1 ∈ cw_T ∧ cw_okI ic := by
      rcases hlk with ⟨h, _⟩ | ⟨h, _⟩ | ⟨h, _⟩ | ⟨_, h⟩ | ⟨h, _⟩ | ⟨h, _⟩ | ⟨h, _⟩ | ⟨h, _⟩ | ⟨h, _⟩ <;> first | exact h | exact absurd h (by decide)
    obtain ⟨⟨host, h1⟩, h2, h2s, h3⟩ := hlk'
    have h3' := h3
    obtain ⟨-, -, k3, k4, k5, k6, k7, k8, k9, k10⟩ := h3
    have hR2 := hR.resolve_right (fun q => q k10)
    rw [k5] at h2s
    refine cw_callG (va_runVN (C := cw_own (cw_c ic)) (b := ad a) (As := (st.take (cw_na ic)).reverse.map (cw_v ad)) ⟨hx, hb, hml, hown, hts⟩ (hM D cA ad H.size) (n := cw_na ic) (host := host) ⟨⟨⟨rfl, rfl, hR2.1, hR2.2, pay_in hts (cw_good2 h3'), List.mem_cons_self⟩, hts _ k3, hts _ k4, ⟨k7, k8⟩, fun sig hsig => ?_, va_Nw.use rfl (hK.2.2 _ h1)⟩, hts _ h2, hts _ h2s⟩ ⟨hpre.1, hrecv, hpre.2⟩ rfl hln hls hst hWW hd ⟨hk.1, hk.2⟩) hS (fun q _ h => hA1 q h) hA1 hkk
    rw [hsig] at k9; exact (Option.some.inj k9).symm
end CWS
