/-! p24: what the law makes; its script read; places renamed -/
section LG2
variable {p : Program} {l : Launch} {e : Env} {s : State} {m : MethodId} {below : List Frame} {meth : Method} {c : Code} {D : va_G} {cA : Nat → ClassId} {b : Nat} {Q : State → Prop}
theorem lg_new {kc ks pc idx ci : Nat} {lv : cw_LV} {h : cw_H} (fs : List Value) (hC : lw_C p s m meth c D cA b) (hk : kc + 1 ≤ 600000 ∧ ks + cw_cn ci ≤ 7302250) (hd : cw_look (cw_tb mm_L_law) pc = some (.new idx, 3)) (hn : cw_look (cw_news 4) idx = some ci) (hfs : ∀ j, j < cw_cn ci → defaultValue (cw_ty ci j) = vp_V fs j) (hfv : ∀ ad, fs.map (cw_v ad) = fs) (wl : ∀ q ∈ lv, lg_wfk h.length q.2) (wh : ∀ q ∈ h, cw_wfe h.length q) (hsc : h.length < lw_SC)
    (kk : lw_G p l e s m below meth c D cA b Q (kc + 1) (ks + cw_cn ci) (pc + 3) lv [.ref h.length] (h ++ [.inr (ci, fs)])) : lw_G p l e s m below meth c D cA b Q kc ks pc lv [] h := by
  intro ad H locs ls hkp hP hD hS hl
  obtain ⟨hX, -, -⟩ := hC
  obtain ⟨hx, hb, hml, hown, hts, hKs, hfr, hlo, -⟩ := hX
  have hdg : decode (cw_b mm_L_law) pc = .ok (.new idx, 3) := cw_kL_law.1 (pc, .new idx, 3) (cw_look_mem hd)
  obtain ⟨h4, n1, n2, n3⟩ := cw_nok _ _ (cw_look_mem hn)
  refine va_new (ci := ci) (fs := fs) (C := cw_own ci) (T := cw_FT ci) (N := cw_cn ci) hx hb hts (cw_in_u ci h4) (cw_ty ci) (cw_tyok ci h4) hown (hts _ n1) (hts _ n2) (hts _ n3) hKs.1 hP hD hS (fun q hq => hq) (cw_cl ci h4) hfs hk.1 hk.2 hdg (fun q H1 hP1 hD1 hS1 => ?_)
  have e1 : ∀ k, k < h.length ∨ k = lw_SC → cw_up ad h.length q k = ad k := fun k hk2 => if_neg (by rcases hk2 with z | z <;> omega)
  have ew : cw_w cA (cw_up ad h.length q) (h ++ [.inr (ci, fs)]) = cw_w cA ad h ++ [(q, .inr (ci, fs))] := by
    rw [cw_w_push, cw_w_eq wh (Nat.le_refl _) (fun k hk2 => e1 k (Or.inl hk2))]
    show cw_w cA ad h ++ [(cw_up ad h.length q h.length, Sum.inr (ci, fs.map (cw_v (cw_up ad h.length q))))] = _
    rw [hfv, show cw_up ad h.length q h.length = q from if_pos rfl]
  have := kk (cw_up ad h.length q) H1 locs ls (fun k hk2 => by rw [← hkp k hk2]; exact e1 k (Or.inr hk2)) (by rw [ew]; exact hP1) (by rw [ew]; exact hD1) hS1 (by rw [lg_L_eq wl e1]; exact hl)
  have e2 : cw_v (cw_up ad h.length q) (.ref h.length) = .ref q := congrArg Value.ref (if_pos rfl)
  rw [List.map_cons, List.map_nil, e2] at this
  exact this
theorem lg_newa {kc ks pc N : Nat} {lv : cw_LV} {h : cw_H} (hC : lw_C p s m meth c D cA b) (hk : kc + 1 ≤ 600000 ∧ ks + N ≤ 7302250) (hd : cw_look (cw_tb mm_L_law) pc = some (.newarray .int, 2)) (hN : N ≤ 65536) (wl : ∀ q ∈ lv, lg_wfk h.length q.2) (wh : ∀ q ∈ h, cw_wfe h.length q) (hsc : h.length < lw_SC)
    (kk : lw_G p l e s m below meth c D cA b Q (kc + 1) (ks + N) (pc + 2) lv [.ref h.length] (h ++ [.inl (0, N, .inl (fun _ => 0))])) : lw_G p l e s m below meth c D cA b Q kc ks pc lv [.int (nI N)] h := by
  intro ad H locs ls hkp hP hD hS hl
  obtain ⟨hX, -, -⟩ := hC
  obtain ⟨hx, hb, hml, hown, hts, hKs, hfr, hlo, -⟩ := hX
  have hdg : decode (cw_b mm_L_law) pc = .ok (.newarray .int, 2) := cw_kL_law.1 (pc, .newarray .int, 2) (cw_look_mem hd)
  have hN0 : ¬ nI N < 0 := nI_pos (by omega)
  have hN1 : (nI N).toNatClampNeg = N := nI_clamp (by omega)
  refine va_newa (atype := .int) (ty := .int) (a0 := (N, .inl (fun _ => 0))) hx hb (hts _ cw_g_ai) rfl hKs.1 hP hD hS (fun q hq => hq) (fun _ => rfl) hN0 hN1 (by show N * 4 ≤ _; omega) hk.1 hk.2 hdg (fun q cA' H1 hK1 hP1 hD1 hS1 => ?_)
  have ec : cA' = cA 0 := by
    have g1 : s.vm.findClass ("[" ++ FieldType.int.toString) = some cA' := (hK1.2 3 (cA', .int) rfl).2
    have g2 : s.vm.findClass ("[" ++ FieldType.int.toString) = some (cA 0) := (hKs.1.2 0 (cA 0, .int) rfl).2
    exact Option.some.inj (g1.symm.trans g2)
  subst ec
  have e1 : ∀ k, k < h.length ∨ k = lw_SC → cw_up ad h.length q k = ad k := fun k hk2 => if_neg (by rcases hk2 with z | z <;> omega)
  have ew : cw_w cA (cw_up ad h.length q) (h ++ [.inl (0, N, .inl (fun _ => 0))]) = cw_w cA ad h ++ [(q, .inl (cA 0, N, .inl (fun _ => 0)))] := by
    rw [cw_w_push, cw_w_eq wh (Nat.le_refl _) (fun k hk2 => e1 k (Or.inl hk2))]
    show cw_w cA ad h ++ [(cw_up ad h.length q h.length, _)] = _
    rw [show cw_up ad h.length q h.length = q from if_pos rfl]
    rfl
  have := kk (cw_up ad h.length q) H1 locs ls (fun k hk2 => by rw [← hkp k hk2]; exact e1 k (Or.inr hk2)) (by rw [ew]; exact hP1) (by rw [ew]; exact hD1) hS1 (by rw [lg_L_eq wl e1]; exact hl)
  have e2 : cw_v (cw_up ad h.length q) (.ref h.length) = .ref q := congrArg Value.ref (if_pos rfl)
  rw [List.map_cons, List.map_nil, e2] at this
  exact this
/-- places renamed, one to one -/
theorem lg_perm {kc ks pc : Nat} {lv : cw_LV} {h h2 : cw_H} (π σ : Nat → Nat) (hl2 : h2.length = h.length) (h1 : ∀ k, k < h.length → π k < h.length ∧ σ (π k) = k) (h1' : ∀ k, k < h.length → σ k < h.length ∧ π (σ k) = k) (hsc : σ (π lw_SC) = lw_SC ∧ σ lw_SC = lw_SC) (hm : ∀ k q, h[k]? = some q → h2[π k]? = some (cw_re π q)) (wl : ∀ q ∈ lv, lg_wfk h.length q.2) (wh : ∀ q ∈ h, cw_wfe h.length q)
    (kk : lw_G p l e s m below meth c D cA b Q kc ks pc (lv.map (fun q => (q.1, cw_v π q.2))) [] h2) : lw_G p l e s m below meth c D cA b Q kc ks pc lv [] h := by
  intro ad H locs ls hkp hP hD hS hl
  have e1 : ∀ k, k < h.length → (fun k => ad (σ k)) (π k) = ad k := fun k hk => congrArg ad (h1 k hk).2
  have at2 : ∀ (j : Nat) (x : Nat × va_E), (cw_w cA (fun k => ad (σ k)) h2)[j]? = some x → j < h.length ∧ (cw_w cA ad h)[σ j]? = some x := by
    intro j x hx
    obtain ⟨q2, g1, g2⟩ := cw_w_inv hx
    have hj : j < h.length := by rw [← hl2]; exact cw_lt g1
    obtain ⟨a1, a2⟩ := h1' j hj
    have g3 : h[σ j]? = some (h[σ j]'a1) := List.getElem?_eq_getElem a1
    have g4 := hm _ _ g3
    rw [a2, g1] at g4
    cases g4
    refine ⟨hj, ?_⟩
    rw [cw_w_get g3, g2, cw_e_comp, cw_wfe_eq (wh _ (List.mem_of_getElem? g3)) e1]
  refine kk (fun k => ad (σ k)) H locs ls (fun k hk2 => ?_) (fun j x hx => ?_) ⟨fun i j x y hx hy hxy => ?_, fun j x hx => ?_⟩ hS ?_
  · rw [hk2]
    show ad (σ lw_SC) = b
    rw [hsc.2]; exact hkp lw_SC rfl
  · exact hP _ _ (at2 j x hx).2
  · obtain ⟨i1, i2⟩ := at2 i x hx
    obtain ⟨j1, j2⟩ := at2 j y hy
    have := hD.1 _ _ _ _ i2 j2 hxy
    have := congrArg π this
    rw [(h1' i i1).2, (h1' j j1).2] at this
    exact this
  · exact hD.2 _ _ (at2 j x hx).2
  · have el : cw_L (fun k => ad (σ k)) (lv.map (fun q => (q.1, cw_v π q.2))) = cw_L ad lv := by
      unfold cw_L
      rw [List.map_map]
      apply List.map_congr_left
      intro q hq
      have w := wl q hq
      show (q.1, cw_v (fun k => ad (σ k)) (cw_v π q.2)) = (q.1, cw_v ad q.2)
      rw [cw_v_comp]
      cases hv : q.2 with
      | ref k =>
        rw [hv] at w
        have : ad (σ (π k)) = ad k := by
          rcases w with z | z
          · exact congrArg ad (h1 k z).2
          · rw [z, hsc.1]
        exact congrArg (fun z => (q.1, Value.ref z)) this
      | _ => rfl
    rw [el]; exact hl
theorem pc_d {pc n : Nat} {i : ClassFile.Instr} (h : cw_look (cw_tb mm_L_cell) pc = some (i, n)) : decode (cw_b mm_L_cell) pc = .ok (i, n) := cw_kL_cell.1 (pc, i, n) (cw_look_mem h)
/-- the script is read, whatever it holds -/
theorem pc_cell (l : Launch) {b Ln : Nat} {xs : Nat → Int32} (hL : Ln ≤ 260) {j : Nat} (hj : j < 2 ^ 31) : Met l mm_L_cell.1 (Cond.code mm_L_cell.1 (cw_b mm_L_cell) (cw_nL mm_L_cell) (cw_r mm_L_cell) :: cw_T) ({ frames := cw_f mm_L_cell, cells := 0, slots := 0, locals := 35 * cw_f mm_L_cell }) (va_Pc [.ref b, .int (nI j)] (fun U => va_X b Ln xs U U.heap ∧ b < U.heap.size)) (va_Qi (fun (_ : Int32) (_ : Unit) => True) (fun _ _ => True) (fun _ => False)) 0 0 (fun _ => False) := by
  have hi := cw_KL_cell
  refine Met.ofW (cc := cw_b mm_L_cell) (maxL := cw_nL mm_L_cell) (ret := cw_r mm_L_cell) hi.2.2.2.2.2.1 rfl ?_
  intro p e s m args below meth c s₁ B hml hv
  obtain ⟨rfl, hX, hbl⟩ := hv
  have hts0 := atoms_spec (ws := Cond.code mm_L_cell.1 (cw_b mm_L_cell) (cw_nL mm_L_cell) (cw_r mm_L_cell) :: cw_T) B.pre
  have hts : ∀ w ∈ cw_T, w.before ([Value.ref b, .int (nI j)] : List Value).toArray s = true := fun w hw => hts0 w (List.mem_cons_of_mem _ hw)
  have hown : s.vm.findClass (cw_own 4) = some m.cls := findClass_of_methodNamed B.named
  have hx := B.exec
  have hb := B.bytes
  have hr : meth.sig.returnType = some .int := B.returns
  have hl := lv_entry ([.ref b, .int (nI j)]) (n := cw_nL mm_L_cell) (Nat.le_of_ble_eq_true rfl)
  rw [lg_entry_eq]
  generalize (lg_sl ([Value.ref b, .int (nI j)]) ++ List.replicate (cw_nL mm_L_cell - (lg_sl ([Value.ref b, .int (nI j)])).length) Slot.unset).toArray = ls at hl ⊢
  have hl : lv_has ls (cw_nL mm_L_cell) [(0, .ref b), (1, .int (nI j))] := hl
  have fin : ∀ (v : Int32), W p l e { frames := cw_f mm_L_cell, cells := 0, slots := 0, locals := 35 * cw_f mm_L_cell } s m ([Value.ref b, .int (nI j)] : List Value).toArray below meth c s.heap [] 0 0 (MQ below (va_Qi (fun (_ : Int32) (_ : Unit) => True) (fun _ _ => True) (fun _ => False)) ([Value.ref b, .int (nI j)] : List Value).toArray s 0 0 (fun _ => False)) (F0 m 21 ls [.int v]) := fun v =>
    W.iret hx hb hr (fun t ht hW => ⟨⟨v, (), rfl, trivial, trivial⟩, va_S.rf.F ht⟩) (fun q hq => by cases hq) (pc_d (pc := 21) rfl) B.notSynchronized
  refine lv_iload_n hx hb (pc_d (pc := 0) (n := 1) rfl) rfl (lv_at hl 1 rfl) ?_
  refine lv_aload_n hx hb (pc_d (pc := 1) (n := 1) rfl) rfl (lv_at hl 0 rfl) ?_
  refine va_slen (A := fun _ => False) hx hb hX hbl (fun z => z) va_S.rf (pc_d (pc := 2) (n := 1) rfl) ?_
  refine lv_icmp_ge (tgt := 12) (off := 9) hx hb (pc_d (pc := 3) (n := 3) rfl) (by decide) (fun _ => ?_) (fun hlt => ?_)
  · refine lv_ldc (v := 905037529) hx hb hown (hts _ (cw_cok 4 (7, 905037529) (cw_look_mem rfl))) (pc_d (pc := 12) (n := 2) rfl) ?_
    refine lv_iload_n hx hb (pc_d (pc := 14) (n := 1) rfl) rfl (lv_at hl 1 rfl) ?_
    refine lv_iconst (v := nI 1) hx hb (pc_d (pc := 15) (n := 1) rfl) (by decide) ?_
    refine lv_iadd hx hb (pc_d (pc := 16) (n := 1) rfl) ?_
    refine lv_imul hx hb (pc_d (pc := 17) (n := 1) rfl) ?_
    refine lv_ldc (v := 1316629347) hx hb hown (hts _ (cw_cok 4 (8, 1316629347) (cw_look_mem rfl))) (pc_d (pc := 18) (n := 2) rfl) ?_
    refine lv_iadd hx hb (pc_d (pc := 20) (n := 1) rfl) ?_
    exact fin _
  · have hjL : j < Ln := by
      rcases Nat.lt_or_ge j Ln with z | z
      · exact z
      · exact absurd (nI_le z hj) hlt
    refine lv_aload_n hx hb (pc_d (pc := 6) (n := 1) rfl) rfl (lv_at hl 0 rfl) ?_
    refine lv_iload_n hx hb (pc_d (pc := 7) (n := 1) rfl) rfl (lv_at hl 1 rfl) ?_
    refine va_sld (A := fun _ => False) hx hb hX hbl (fun z => z) va_S.rf (vp_in_nI hjL (by omega)) (pc_d (pc := 8) (n := 1) rfl) ?_
    refine lv_goto (tgt := 21) hx hb (pc_d (pc := 9) (n := 3) rfl) (by decide) ?_
    exact fin _
/-- the law reads its script: any number may come -/
theorem lg_cell {kc ks pc j : Nat} {lv : cw_LV} {h : cw_H} {rest : List Value} (hC : lw_C p s m meth c D cA b) (hk : kc ≤ 600000 ∧ ks ≤ 7302250) (hd : cw_look (cw_tb mm_L_law) pc = some (.invokestatic 76, 3)) (hj : j < 2 ^ 31) (hW : (rest.map fun v => v.category).sum ≤ 8) (kk : ∀ v : Int32, lw_G p l e s m below meth c D cA b Q kc ks (pc + 3) lv (.int v :: rest) h) : lw_G p l e s m below meth c D cA b Q kc ks pc lv (.int (nI j) :: .ref lw_SC :: rest) h := by
  intro ad H locs ls hkp hP hD hS hl
  obtain ⟨hX, ⟨Ln, xs, hL, hscr⟩, hbl⟩ := hC
  obtain ⟨hx, hb, hml, hown, hts, hK, hfr, hlo, -⟩ := hX
  have hdg : decode (cw_b mm_L_law) pc = .ok (.invokestatic 76, 3) := cw_kL_law.1 (pc, .invokestatic 76, 3) (cw_look_mem hd)
  have hlk : cw_okC 4 76 1 mm_L_cell := cw_c4_76
  have hls : ls.size = 14 := hl.1
  have hlk' : Cond.methodLink (cw_own 4) 76 mm_L_cell.1 ∈ cw_T ∧ Cond.static mm_L_cell.1 ∈ cw_T ∧ cw_okI mm_L_cell := by
    rcases hlk with ⟨h, _⟩ | ⟨_, h⟩ | ⟨h, _⟩ | ⟨h, _⟩ | ⟨h, _⟩ | ⟨h, _⟩ | ⟨h, _⟩ | ⟨h, _⟩ | ⟨h, _⟩ <;> first | exact h | exact absurd h (by decide)
  obtain ⟨h1, h2, h3⟩ := hlk'
  have h3' := h3
  obtain ⟨-, -, k3, k4, k5, k6, k7, k8, k9, k10⟩ := h3
  have hbH : H[b]? = s.heap[b]? := hS.2.1 b hbl (Nat.not_le.mpr hbl)
  have hbs : b < H.size := Nat.lt_of_lt_of_le hbl hS.1
  have hpre : FrameBlind (va_Pc [.ref b, .int (nI j)] (fun U => va_X b Ln xs U U.heap ∧ b < U.heap.size)) ∧ ∀ U : State, U.heap = H → s.WarmedH U.vm → va_Pc [.ref b, .int (nI j)] (fun U => va_X b Ln xs U U.heap ∧ b < U.heap.size) ([Value.ref b, .int (nI j)] : List Value).toArray U :=
    ⟨fun a U g mk q => ⟨q.1, va_X.moved (u := U) (U := U.calling g mk a) (Vm.Alike.refl U.vm) q.2.1, q.2.2⟩, fun U hU hW2 => ⟨rfl, by rw [hU]; exact (hscr.kept hbH).moved hW2.alike, by rw [hU]; exact hbs⟩⟩
  have hadb : ad lw_SC = b := hkp lw_SC rfl
  have hst : (Value.int (nI j) :: .ref lw_SC :: rest).map (cw_v ad) = ([Value.ref b, .int (nI j)] : List Value).reverse ++ rest.map (cw_v ad) := by
    show Value.int (nI j) :: Value.ref (ad lw_SC) :: rest.map (cw_v ad) = _
    rw [hadb]; rfl
  have hWW : 2 * (F0 m pc ls ((Value.int (nI j) :: .ref lw_SC :: rest).map (cw_v ad))).monitorRoom + ((rest.map (cw_v ad)).map fun v => v.category).sum ≤ 8 := lv_room (by rw [cw_cats]; exact hW)
  have hR2 : cw_f mm_L_cell + 1 ≤ room_1.frames ∧ 8 + (cw_nL mm_L_cell + 11) + 35 * cw_f mm_L_cell ≤ room_1.locals := by decide
  refine va_calli (va_runS (As := [Value.ref b, .int (nI j)]) ⟨hx, hb, hml, hown, hts⟩ (pc_cell l (xs := xs) hL hj) (n := 2) ⟨⟨rfl, rfl, hR2.1, hR2.2, pay_in hts (cw_good2 h3'), List.mem_cons_self, hts _ k3, hts _ k4, ⟨k7, k8⟩, fun sig hsig => ?_, hts _ h1⟩, hts _ h2⟩ hpre rfl rfl hls hst hWW hdg hk) hS (fun _ _ z => z.elim) (fun _ z => z.elim) (fun r _ t H1 locs1 _ _ _ _ hz hk1 hS1 => ?_)
  · rw [hsig] at k9; exact (Option.some.inj k9).symm
  · have hP1 : va_P D vwCl (cw_w cA ad h) H1 := hP.kept (fun k x hx => hk1 _ (hP k x hx).lt (fun z => z))
    exact kk r ad H1 locs1 ls hkp hP1 hD hS1 hl
end LG2
