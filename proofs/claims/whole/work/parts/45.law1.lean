/-! answers; a new object; the law: its calls -/
section CCQ5
variable {l : Launch} {u : Int32} {N T : cs_S} {H G : Nat → Option Nat} {f : Nat → Int32} {pl : Int32} {L : List cs_S}
theorem cc_an_loop5 (hB : cs_Bd N) : ∀ n A m, A + n = 2 ^ cs_k N → cw_W l mm_X2_answers 5 101 (cc_h u N T H G f pl L) (some (.int (nI (cs_an N n A m)))) (cc_h u N T H G f pl L) 0 0 4 [(2, .int (nI A)), (1, .int (nI m)), (0, .ref 0)] [] (cc_h u N T H G f pl L) := by
  have h512 := cb_pow9 hB.2.2.2.2
  intro n
  induction n with
  | zero =>
    intro A m hA
    exact cw_run cw_kX2_answers cw_z 6 [true] [] [(_, _)] (And.intro (cc_choices hB) (And.intro (Nat.le_refl _) (And.intro ((show nI (2 ^ cs_k N) ≤ nI A from nI_le (by omega) (by omega))) (cw_reti cw_kX2_answers cw_z rfl rfl))))
  | succ n ih =>
    intro A m hA
    have h0 : ¬ nI (2 ^ cs_k N) ≤ nI A := nI_ge (by omega) (by omega)
    unfold cs_an
    by_cases c : cs_brk N A = 0
    · rw [if_pos c]
      have ih1 := ih (A + 1) (m + 1) (by omega)
      rw [← nI_add A 1, ← nI_add m 1] at ih1
      exact cw_run cw_kX2_answers cw_z 16 [false, false] [] [(_, _), (_, _), (_, _)] (And.intro (cc_choices hB) (And.intro (Nat.le_refl _) (And.intro (h0) (And.intro (cc_chn A) (And.intro (Nat.le_refl _) (And.intro (cc_brk hB A) (And.intro (Nat.le_refl _) (And.intro ((fun q => q c)) (ih1)))))))))
    · rw [if_neg c]
      have ih1 := ih (A + 1) (m + 0) (by omega)
      rw [← nI_add A 1, Nat.add_zero] at ih1
      exact cw_run cw_kX2_answers cw_z 15 [false, true] [] [(_, _), (_, _), (_, _)] (And.intro (cc_choices hB) (And.intro (Nat.le_refl _) (And.intro (h0) (And.intro (cc_chn A) (And.intro (Nat.le_refl _) (And.intro (cc_brk hB A) (And.intro (Nat.le_refl _) (And.intro (c) (ih1)))))))))
theorem cc_answers5 (hB : cs_Bd N) : cw_M l mm_X2_answers 5 101 [.ref 0] (cc_h u N T H G f pl L) (some (.int (nI (cs_an N (2 ^ cs_k N) 0 0)))) (cc_h u N T H G f pl L) := by
  refine cw_enter cw_kX2_answers (by decide) (Nat.le_of_ble_eq_true rfl) ?_
  exact cw_run cw_kX2_answers cw_z 4 [] [] [] (cc_an_loop5 hB (2 ^ cs_k N) 0 0 (by omega))end CCQ5
section SIM
variable {l : Launch} {u : Nat} {N T : cs_S} {H G : Nat → Option Nat} {f : Nat → Int32} {n : Nat} {L : List cs_S} {M : cm_S}
theorem cz_answers (hR : cc_R u N H G f n L M) : cc_G l mm_X2_answers mm_X3_answers [] u N T H G f n L M := by
  have hc := cc_answers5 (l := l) (u := nI u) (T := T) (H := H) (G := G) (f := f) (pl := nI n) (L := L) (cR_B hR)
  have hm := cm_answers l M (cR_3 hR) (cR_t20 hR) (cR_0 hR) (cR_k9 hR)
  rw [← cr_an (cr_S0_of hR.2.1) _ _ _ (by omega)] at hm
  exact cc_same hR hc hm
end SIM
/-- a new object on both sides -/
theorem cc_R_0 : cc_R 0 cs_z (fun _ => none) (fun _ => none) (fun _ => 0) 0 [] cm_z := by
  have ft : cs_t cs_z = 0 := nI_clamp (n := 0) (by omega)
  have fk : cs_k cs_z = 4 := nI_clamp (n := 4) (by omega)
  have a := cr_anew (S := cs_z) (f := cm_z0) ⟨⟨by rw [ft]; rfl, by omega⟩, ⟨by rw [fk]; rfl, by omega, by omega⟩, ⟨10, by omega, by omega, rfl⟩, Or.inl rfl, ⟨rfl, rfl, rfl, rfl⟩, fun k hk => absurd hk (by omega)⟩
  rw [ft] at a
  refine ⟨⟨by omega, fun _ _ q => (by cases q), fun _ _ q => (by cases q), fun i hi => absurd hi (Nat.not_lt_zero i), fun _ _ _ q => (by cases q), fun _ _ _ q => (by cases q), fun _ _ _ q => (by cases q)⟩, a, rfl, fun i hi => absurd hi (Nat.not_lt_zero i), fun s _ => Or.inl ⟨rfl, rfl⟩, ⟨Nat.zero_le _, fun k hk => absurd hk (Nat.not_lt_zero k)⟩, rfl⟩
/-! THE LAW: two worlds apart, the class's and the reference's -/
def lw_X (p : Program) (s : State) (m : MethodId) (c : Code) (D : va_G) (cA : Nat → ClassId) (b : Nat) : Prop := p.tables.exec = Jvm.exec ∧ c.code = code ∧ c.maxLocals = 4 ∧ s.vm.findClass (cw_own 4) = some m.cls ∧ (∀ w ∈ cw_T, w.before #[Value.ref b] s = true) ∧ cw_K D cA s
abbrev lw_A (s : State) : Nat → Prop := fun q => s.heap.size ≤ q
def lw_Wd (D : va_G) (cA : Nat → ClassId) (s : State) (a1 a2 : Nat → Nat) (h1 h2 : cw_H) (H : Heap) (locs : List Loc) : Prop := va_P D vwCl (cw_w cA a1 h1) H ∧ va_D (lw_A s) (cw_w cA a1 h1) ∧ va_P D vwCl (cw_w cA a2 h2) H ∧ va_D (lw_A s) (cw_w cA a2 h2) ∧ (∀ i j, i < h1.length → j < h2.length → a1 i ≠ a2 j) ∧ va_S (lw_A s) s.heap H locs
theorem lw_Wd.symm {D : va_G} {cA : Nat → ClassId} {s : State} {a1 a2 : Nat → Nat} {h1 h2 : cw_H} {H : Heap} {locs : List Loc} (h : lw_Wd D cA s a1 a2 h1 h2 H locs) : lw_Wd D cA s a2 a1 h2 h1 H locs :=
  ⟨h.2.2.1, h.2.2.2.1, h.1, h.2.1, fun i j hi hj e => h.2.2.2.2.1 j i hj hi e.symm, h.2.2.2.2.2⟩
section LAW
variable {p : Program} {l : Launch} {e : Env} {s : State} {m : MethodId} {below : List Frame} {meth : Method} {c : Code} {D : va_G} {cA : Nat → ClassId} {b : Nat} {Q : State → Prop}
theorem lw_behind {a1 a2 : Nat → Nat} {h1 h1' h2 : cw_H} {H : Heap} {locs : List Loc} (hw : lw_Wd D cA s a1 a2 h1 h2 H locs) {ad' : Nat → Nat} {H1 : Heap} {locs1 : List Loc} (q1 : va_P D vwCl (cw_w cA ad' h1') H1) (q2 : va_D (va_A (cw_w cA a1 h1) H.size) (cw_w cA ad' h1')) (q4 : ∀ q : Nat, q < H.size → ¬ va_A (cw_w cA a1 h1) H.size q → H1[q]? = H[q]?) (q5 : va_S (lw_A s) s.heap H1 locs1) : lw_Wd D cA s ad' a2 h1' h2 H1 locs1 := by
  obtain ⟨hP1, hD1, hP2, hD2, hdis, hS⟩ := hw
  have hA1 := cw_A1 hD1 hS (fun q hq => hq)
  refine ⟨q1, q2.weaken (fun _ _ _ h => hA1 _ h), hP2.kept (fun k x hx => ?_), hD2, fun i j hi hj z => ?_, q5⟩
  · refine q4 _ (hP2 k x hx).lt (fun z => ?_)
    have lt := (hP2 k x hx).lt
    obtain ⟨q, hq, rfl⟩ := cw_w_inv hx
    rcases z with ⟨k', e', z⟩ | z
    · obtain ⟨q', hq', z2⟩ := cw_w_inv z
      exact hdis k' k (cw_lt hq') (cw_lt hq) (congrArg Prod.fst z2).symm
    · exact absurd lt (Nat.not_lt.mpr z)
  · obtain ⟨q, hq⟩ : ∃ q, h1'[i]? = some q := ⟨_, List.getElem?_eq_getElem hi⟩
    obtain ⟨q', hq'⟩ : ∃ q, h2[j]? = some q := ⟨_, List.getElem?_eq_getElem hj⟩
    have w := q2.2 i _ (cw_w_get hq)
    have lt := (hP2 j _ (cw_w_get hq')).lt
    rcases w with ⟨k', e', w⟩ | w
    · obtain ⟨q'', hq'', w2⟩ := cw_w_inv w
      exact hdis k' j (cw_lt hq'') hj ((congrArg Prod.fst w2).symm.trans z)
    · have w3 : H.size ≤ ad' i := w
      have l3 : a2 j < H.size := lt
      omega
theorem lw_call {ic : cw_I} {idx mc ms pc : Nat} {av rest : List Value} {r : Int32} {h1 h1' h2 : cw_H} {a1 a2 : Nat → Nat} {H : Heap} {locs : List Loc} {kc ks : Nat} {ls : Array Slot} {fs : List Value}
    (hX : lw_X p s m c D cA b) (hk : kc + mc ≤ 600000 ∧ ks + ms ≤ 7302250) (hd : decode code pc = .ok (.invokevirtual idx, 3)) (hlk : cw_okC 4 idx 0 ic) (hf : cw_f ic ≤ 9) (hci4 : cw_c ic < 4) (hn : cw_na ic = av.length) (hcell : h1[0]? = some (.inr (cw_c ic, fs))) (hav : ∀ a, av.map (cw_v a) = av) (hW : (rest.map fun v => v.category).sum ≤ 8)
    (hM : cw_M l ic mc ms (.ref 0 :: av) h1 (some (.int r)) h1') (hls : ls.size = 4) (hw : lw_Wd D cA s a1 a2 h1 h2 H locs)
    (kk : ∀ (a1' : Nat → Nat) (H1 : Heap) (locs1 : List Loc), lw_Wd D cA s a1' a2 h1' h2 H1 locs1 → a1' 0 = a1 0 → W p l e room_1 s m #[Value.ref b] below meth c H1 locs1 (kc + mc) (ks + ms) Q (F0 m (pc + 3) ls (.int r :: rest))) : W p l e room_1 s m #[Value.ref b] below meth c H locs kc ks Q (F0 m pc ls (av.reverse ++ .ref (a1 0) :: rest)) := by
  have hw0 := hw
  obtain ⟨hx, hb, hml, hown, hts, hK⟩ := hX
  obtain ⟨hP, hD, hP2, hD2, hdis, hS⟩ := hw
  have hA1 := cw_A1 hD hS (fun q hq => hq)
  have hkk : ∀ (ad' : Nat → Nat) (H1 : Heap) (locs1 : List Loc), (∀ k, k < h1.length ∨ h1'.length ≤ k → ad' k = a1 k) → va_P D vwCl (cw_w cA ad' h1') H1 → va_D (va_A (cw_w cA a1 h1) H.size) (cw_w cA ad' h1') → H.size ≤ H1.size → (∀ q : Nat, q < H.size → ¬ va_A (cw_w cA a1 h1) H.size q → H1[q]? = H[q]?) → va_S (lw_A s) s.heap H1 locs1 → W p l e room_1 s m #[Value.ref b] below meth c H1 locs1 (kc + mc) (ks + ms) Q (F0 m (pc + 3) ls (((some (Value.int r)).map (cw_v ad')).toList ++ rest)) := by
    intro ad' H1 locs1 e1 q1 q2 _ q4 q5
    exact kk ad' H1 locs1 (lw_behind hw0 q1 q2 q4 q5) (e1 0 (Or.inl (cw_lt hcell)))
  have hst : av.reverse ++ Value.ref (a1 0) :: rest = (av.map (cw_v a1)).reverse ++ .ref (a1 0) :: rest := by rw [hav]
  have hWW : 2 * (F0 m pc ls (av.reverse ++ Value.ref (a1 0) :: rest)).monitorRoom + (rest.map fun v => v.category).sum ≤ 8 := lv_room hW
  have hln : (av.map (cw_v a1)).length = cw_na ic := by rw [List.length_map, hn]
  have hlk' : Cond.methodLink (cw_own 4) idx ic.1 ∈ cw_T ∧ Cond.instanceMethod ic.1 ∈ cw_T ∧ Cond.selects ic.1.cls ic.1 ic.1 ∈ cw_T ∧ cw_okI ic := by
    rcases hlk with ⟨_, h⟩ | ⟨h, _⟩ | ⟨h, _⟩ | ⟨h, _⟩ | ⟨h, _⟩ | ⟨h, _⟩ | ⟨h, _⟩ | ⟨h, _⟩ | ⟨h, _⟩ <;> first | exact h | exact absurd h (by decide)
  obtain ⟨g1, g2, h2s, h3⟩ := hlk'
  have h3' := h3
  obtain ⟨-, -, k3, k4, k5, k6, k7, k8, k9, k10⟩ := h3
  have hR2 : cw_f ic + 1 ≤ room_1.frames ∧ 8 + (cw_nL ic + 11) + 34 * cw_f ic ≤ room_1.locals := by
    show cw_f ic + 1 ≤ 10 ∧ 8 + (cw_nL ic + 11) + 34 * cw_f ic ≤ 358
    have : cw_nL ic ≤ 15 := k10
    omega
  have hpre := cw_pre (i := ic) (av := .ref 0 :: av) hK hP hD
  have hrecv := va_recv (ci := cw_c ic) (q0 := 0) hK.1 hP (cw_cl (cw_c ic) hci4) (cw_w_get hcell)
  rw [k5] at h2s
  refine cw_callG (va_runV (C := cw_own (cw_c ic)) (b := a1 0) (As := av.map (cw_v a1)) ⟨hx, hb, hml, hown, hts⟩ (hM D cA a1 H.size) (n := cw_na ic) ⟨⟨rfl, rfl, hR2.1, hR2.2, pay_in hts (cw_good2 h3'), List.mem_cons_self, hts _ k3, hts _ k4, ⟨k7, k8⟩, fun sig hsig => ?_, hts _ g1⟩, hts _ g2, hts _ h2s⟩ ⟨hpre.1, hrecv, hpre.2⟩ rfl hln hls hst hWW hd hk) hS (fun q _ h => hA1 q h) hA1 hkk
  rw [hsig] at k9; exact (Option.some.inj k9).symm
theorem lw_callI {ic : cw_I} {idx mc ms pc : Nat} {rest : List Value} {h1 h1' h2 : cw_H} {a1 a2 : Nat → Nat} {H : Heap} {locs : List Loc} {kc ks : Nat} {ls : Array Slot} {q0 : cw_E}
    (hX : lw_X p s m c D cA b) (hk : kc + mc ≤ 600000 ∧ ks + ms ≤ 7302250) (hd : decode code pc = .ok (.invokespecial idx, 3)) (hlk : cw_okC 4 idx 2 ic) (hf : cw_f ic ≤ 9) (hn : cw_na ic = 0) (hcell : h1[0]? = some q0) (hW : (rest.map fun v => v.category).sum ≤ 8)
    (hM : cw_M l ic mc ms [.ref 0] h1 none h1') (hls : ls.size = 4) (hw : lw_Wd D cA s a1 a2 h1 h2 H locs)
    (kk : ∀ (a1' : Nat → Nat) (H1 : Heap) (locs1 : List Loc), lw_Wd D cA s a1' a2 h1' h2 H1 locs1 → a1' 0 = a1 0 → W p l e room_1 s m #[Value.ref b] below meth c H1 locs1 (kc + mc) (ks + ms) Q (F0 m (pc + 3) ls rest)) : W p l e room_1 s m #[Value.ref b] below meth c H locs kc ks Q (F0 m pc ls (.ref (a1 0) :: rest)) := by
  have hw0 := hw
  obtain ⟨hx, hb, hml, hown, hts, hK⟩ := hX
  obtain ⟨hP, hD, hP2, hD2, hdis, hS⟩ := hw
  have hA1 := cw_A1 hD hS (fun q hq => hq)
  have hkk : ∀ (ad' : Nat → Nat) (H1 : Heap) (locs1 : List Loc), (∀ k, k < h1.length ∨ h1'.length ≤ k → ad' k = a1 k) → va_P D vwCl (cw_w cA ad' h1') H1 → va_D (va_A (cw_w cA a1 h1) H.size) (cw_w cA ad' h1') → H.size ≤ H1.size → (∀ q : Nat, q < H.size → ¬ va_A (cw_w cA a1 h1) H.size q → H1[q]? = H[q]?) → va_S (lw_A s) s.heap H1 locs1 → W p l e room_1 s m #[Value.ref b] below meth c H1 locs1 (kc + mc) (ks + ms) Q (F0 m (pc + 3) ls (((none : Option Value).map (cw_v ad')).toList ++ rest)) := by
    intro ad' H1 locs1 e1 q1 q2 _ q4 q5
    exact kk ad' H1 locs1 (lw_behind hw0 q1 q2 q4 q5) (e1 0 (Or.inl (cw_lt hcell)))
  have hWW : 2 * (F0 m pc ls (Value.ref (a1 0) :: rest)).monitorRoom + (rest.map fun v => v.category).sum ≤ 8 := lv_room hW
  have hlk' : Cond.methodLink (cw_own 4) idx ic.1 ∈ cw_T ∧ Cond.instanceMethod ic.1 ∈ cw_T ∧ ic.1.name = "<init>" ∧ ic.2.2.2.1 = none ∧ cw_okI ic := by
    rcases hlk with ⟨h, _⟩ | ⟨h, _⟩ | ⟨_, h⟩ | ⟨h, _⟩ | ⟨h, _⟩ | ⟨h, _⟩ | ⟨h, _⟩ | ⟨h, _⟩ | ⟨h, _⟩ <;> first | exact h | exact absurd h (by decide)
  obtain ⟨g1, g2, g3, g4, h3⟩ := hlk'
  have h3' := h3
  obtain ⟨-, -, k3, k4, k5, k6, k7, k8, k9, k10⟩ := h3
  have hR2 : cw_f ic + 1 ≤ room_1.frames ∧ 8 + (cw_nL ic + 11) + 34 * cw_f ic ≤ room_1.locals := by
    show cw_f ic + 1 ≤ 10 ∧ 8 + (cw_nL ic + 11) + 34 * cw_f ic ≤ 358
    have : cw_nL ic ≤ 15 := k10
    omega
  have hpre := cw_pre (i := ic) (av := [.ref 0]) hK hP hD
  have hgood := cw_good2 h3'
  have hMM := hM D cA a1 H.size
  rw [show cw_r ic = none from g4] at hgood hMM
  rw [g4] at k3
  refine cw_callG (va_runI (b := a1 0) (As := []) ⟨hx, hb, hml, hown, hts⟩ hMM (n := 0) ⟨⟨rfl, rfl, hR2.1, hR2.2, pay_in hts hgood, List.mem_cons_self, hts _ k3, hts _ k4, ⟨k7, k8⟩, fun sig hsig => ?_, hts _ g1⟩, g3, hts _ g2⟩ hpre rfl rfl hls rfl hWW hd hk) hS (fun q _ h => hA1 q h) hA1 hkk
  rw [hsig] at k9; exact hn.symm.trans (Option.some.inj k9).symm
theorem lw_new {idx ci pc : Nat} {rest : List Value} {h1 : cw_H} {a1 a2 : Nat → Nat} {H : Heap} {locs : List Loc} {kc ks : Nat} {ls : Array Slot} (fs : List Value)
    (hX : lw_X p s m c D cA b) (hk : kc + 1 ≤ 600000 ∧ ks + cw_cn ci ≤ 7302250) (hd : decode code pc = .ok (.new idx, 3)) (hn : cw_look (cw_news 4) idx = some ci) (hfs : ∀ j, j < cw_cn ci → defaultValue (cw_ty ci j) = vp_V fs j) (hfv : ∀ ad, fs.map (cw_v ad) = fs) (hw : lw_Wd D cA s a1 a2 h1 [] H locs)
    (kk : ∀ (q : Nat) (H1 : Heap), lw_Wd D cA s a1 (fun _ => q) h1 [.inr (ci, fs)] H1 locs → W p l e room_1 s m #[Value.ref b] below meth c H1 locs (kc + 1) (ks + cw_cn ci) Q (F0 m (pc + 3) ls (.ref q :: rest))) : W p l e room_1 s m #[Value.ref b] below meth c H locs kc ks Q (F0 m pc ls rest) := by
  obtain ⟨hx, hb, hml, hown, hts, hK⟩ := hX
  obtain ⟨hP, hD, -, -, -, hS⟩ := hw
  obtain ⟨h4, n1, n2, n3⟩ := cw_nok _ _ (cw_look_mem hn)
  refine va_new (ci := ci) (fs := fs) (C := cw_own ci) (T := cw_FT ci) (N := cw_cn ci) hx hb hts (cw_in_u ci h4) (cw_ty ci) (cw_tyok ci h4) hown (hts _ n1) (hts _ n2) (hts _ n3) hK.1 hP hD hS (fun q hq => hq) (cw_cl ci h4) hfs hk.1 hk.2 hd (fun q H1 hPq hDq hS1 => ?_)
  have e0 : cw_w cA (fun _ => q) [.inr (ci, fs)] = [(q, .inr (ci, fs))] := by
    show [(q, Sum.inr (ci, fs.map (cw_v (fun _ => q))))] = _
    rw [hfv]
  have at1 : ∀ (k : Nat) (x : Nat × va_E), (cw_w cA a1 h1)[k]? = some x → (cw_w cA a1 h1 ++ [(q, .inr (ci, fs))])[k]? = some x := fun k x hx => by
    rw [List.getElem?_append_left (List.getElem?_eq_some_iff.mp hx).1]; exact hx
  have at2 : ∀ (k : Nat) (x : Nat × va_E), ([(q, .inr (ci, fs))] : va_W)[k]? = some x → (cw_w cA a1 h1 ++ [(q, .inr (ci, fs))])[(cw_w cA a1 h1).length + k]? = some x := fun k x hx => by
    rw [List.getElem?_append_right (Nat.le_add_right _ _), Nat.add_sub_cancel_left]; exact hx
  have hD2 : va_D (lw_A s) ([(q, .inr (ci, fs))] : va_W) := ⟨fun i j x y hx hy _ => by
    have l1 : i < 1 := (List.getElem?_eq_some_iff.mp hx).1
    have l2 : j < 1 := (List.getElem?_eq_some_iff.mp hy).1
    omega, fun k x hx => hDq.2 _ x (at2 k x hx)⟩
  refine kk q H1 ⟨fun k x hx => hPq k x (at1 k x hx), hD, by rw [e0]; exact fun k x hx => hPq _ x (at2 k x hx), by rw [e0]; exact hD2, fun i j hi hj z => ?_, hS1⟩
  · obtain ⟨q', hq'⟩ : ∃ q, h1[i]? = some q := ⟨_, List.getElem?_eq_getElem hi⟩
    have x1 := at1 i _ (cw_w_get hq')
    have x2 := at2 0 _ rfl
    have := hDq.1 _ _ _ _ x1 x2 z
    rw [cw_w_len] at this
    omega
end LAW
