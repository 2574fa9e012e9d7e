/-! runs, beginnings and ends of a method -/
def cw_go (l : Launch) (ii : cw_I) : Nat → List Bool → List Nat → List (Option Value × cw_H) → Nat → cw_LV → List Value → cw_H → (Nat → cw_LV → List Value → cw_H → Prop) → Prop
  | 0, _, _, _, pc, lv, st, h, K => K pc lv st h
  | n + 1, ds, js, cs, pc, lv, st, h, K => match cw_look (cw_tb ii) pc with
    | some (i, len) => cw_stp l (cw_c ii) (cw_f ii) (cw_nL ii) (decide (ii.1.name = "<init>")) i len (ds.headD false) (js.headD 0) (cs.headD (none, [])) pc lv st h
        (fun pc lv st h => cw_go l ii n ds js cs pc lv st h K) (fun pc lv st h => cw_go l ii n ds.tail js cs pc lv st h K) (fun pc lv st h => cw_go l ii n ds js.tail cs pc lv st h K) (fun pc lv st h => cw_go l ii n ds js cs.tail pc lv st h K)
    | none => False
section CWR
variable {p : Program} {l : Launch} {e : Env} {R : Room} {s : State} {m : MethodId} {args : Array Value} {below : List Frame} {meth : Method} {c : Code} {D : va_G} {cA : Nat → ClassId} {A : Nat → Prop} {keep : Nat → Prop} {ad0 : Nat → Nat} {Q : State → Prop} {kc ks : Nat}
theorem cw_go_ok {ii : cw_I} (hi : cw_okD ii) (hX : cw_X ii p R s m args meth c D cA) (hk : kc ≤ R.cells ∧ ks ≤ R.slots) (hAs : ∀ q, s.heap.size ≤ q → A q) {K : Nat → cw_LV → List Value → cw_H → Prop}
    (hK : ∀ pc lv st h, K pc lv st h → cw_G p l e R s m args below meth c D cA A keep ad0 Q (cw_nL ii) kc ks pc lv st h) :
    ∀ (n : Nat) (ds : List Bool) (js : List Nat) (cs : List (Option Value × cw_H)) (pc : Nat) (lv : cw_LV) (st : List Value) (h : cw_H), cw_go l ii n ds js cs pc lv st h K → cw_G p l e R s m args below meth c D cA A keep ad0 Q (cw_nL ii) kc ks pc lv st h := by
  intro n
  induction n with
  | zero => intro ds js cs pc lv st h hg; exact hK _ _ _ _ hg
  | succ n ih =>
    intro ds js cs pc lv st h hg
    unfold cw_go at hg
    split at hg
    · rename_i i len e1
      have hm := cw_look_mem e1
      exact cw_stp_ok hX.2.2.2.2.2.2.2.2.1 (K := fun pc lv st h => cw_go l ii n ds js cs pc lv st h K) (Kb := fun pc lv st h => cw_go l ii n ds.tail js cs pc lv st h K) (Kj := fun pc lv st h => cw_go l ii n ds js.tail cs pc lv st h K) (Kc := fun pc lv st h => cw_go l ii n ds js cs.tail pc lv st h K) hX hk hAs (hi.1 (pc, i, len) hm) (hi.2.1 (pc, i, len) hm) (fun pc lv st h q => ih ds js cs pc lv st h q) (fun pc lv st h q => ih ds.tail js cs pc lv st h q) (fun pc lv st h q => ih ds js.tail cs pc lv st h q) (fun pc lv st h q => ih ds js cs.tail pc lv st h q) hg
    · exact hg.elim
end CWR
/-- at a place of the method ii, that began on the heap h0, and is to answer r on the heap h1 -/
def cw_W (l : Launch) (ii : cw_I) (mc ms : Nat) (h0 : cw_H) (r : Option Value) (h1 : cw_H) (kc ks pc : Nat) (lv : cw_LV) (st : List Value) (h : cw_H) : Prop :=
  ∀ (p : Program) (e : Env) (R : Room) (s : State) (m : MethodId) (args : Array Value) (below : List Frame) (meth : Method) (c : Code) (D : va_G) (cA : Nat → ClassId) (ad0 : Nat → Nat), cw_X ii p R s m args meth c D cA → R.cells = mc → R.slots = ms →
    cw_G p l e R s m args below meth c D cA (va_A (cw_w cA ad0 h0) s.heap.size) (fun k => k < h0.length ∨ h1.length ≤ k) ad0 (MQ below (cw_Q D cA ad0 h0 r h1 (va_A (cw_w cA ad0 h0) s.heap.size)) args s mc ms (va_A (cw_w cA ad0 h0) s.heap.size)) (cw_nL ii) kc ks pc lv st h
theorem cw_run {l : Launch} {ii : cw_I} {mc ms : Nat} {h0 : cw_H} {r : Option Value} {h1 : cw_H} {kc ks pc : Nat} {lv : cw_LV} {st : List Value} {h : cw_H} (hi : cw_okD ii) (hk : kc ≤ mc ∧ ks ≤ ms) (n : Nat) (ds : List Bool) (js : List Nat) (cs : List (Option Value × cw_H))
    (hg : cw_go l ii n ds js cs pc lv st h (cw_W l ii mc ms h0 r h1 kc ks)) : cw_W l ii mc ms h0 r h1 kc ks pc lv st h := by
  intro p e R s m args below meth c D cA ad0 hX hR1 hR2
  subst hR1; subst hR2
  exact cw_go_ok hi hX hk (fun q hq => Or.inr hq) (fun pc lv st h q => q p e R s m args below meth c D cA ad0 hX rfl rfl) n ds js cs pc lv st h hg
theorem cw_args_L (ad : Nat → Nat) : ∀ (av : List Value) (i : Nat), lv_args i (av.map (cw_v ad)) = cw_L ad (lv_args i av)
  | [], _ => rfl
  | v :: vs, i => by
    simp only [List.map_cons, lv_args, cw_cat, cw_L]
    rw [cw_args_L ad vs]
    rfl
theorem cw_sl (ad : Nat → Nat) (av : List Value) : (lg_sl (av.map (cw_v ad))).length = (lg_sl av).length := by
  induction av with
  | nil => rfl
  | cons v vs ih =>
    simp only [lg_sl, List.map_cons, List.flatMap_cons, List.length_append, cw_cat] at ih ⊢
    rw [ih]
    by_cases h : v.category = 2 <;> simp [h]
theorem cw_enter {l : Launch} {ii : cw_I} {mc ms : Nat} {av : List Value} {h0 : cw_H} {r : Option Value} {h1 : cw_H} (hi : cw_okI ii) (hf : 1 ≤ cw_f ii) (hn : (lg_sl av).length ≤ cw_nL ii)
    (hW : cw_W l ii mc ms h0 r h1 0 0 0 (lv_args 0 av) [] h0) : cw_M l ii mc ms av h0 r h1 := by
  intro D cA ad sz
  refine Met.ofW (cc := cw_b ii) (maxL := cw_nL ii) (ret := cw_r ii) hi.2.2.2.2.2.1 rfl ?_
  intro p e s m args below meth c s₁ B hml hv
  obtain ⟨rfl, hsz, hP, hK, hD0⟩ := hv
  have hts0 := atoms_spec (ws := Cond.code ii.1 (cw_b ii) (cw_nL ii) (cw_r ii) :: cw_T) B.pre
  have hown : s.vm.findClass ii.1.cls = some m.cls := findClass_of_methodNamed B.named
  subst hsz
  have hl := lv_entry (av.map (cw_v ad)) (n := cw_nL ii) (by rw [cw_sl]; exact hn)
  rw [lg_entry_eq]
  rw [cw_args_L] at hl
  exact hW p e _ s m _ below meth c D cA ad ⟨B.exec, B.bytes, hml, by rw [← hi.2.2.2.2.1]; exact hown, fun w hw => hts0 w (List.mem_cons_of_mem _ hw), hK, ⟨hf, Nat.le_refl _⟩, Nat.le_refl _, (fun z => (name_of_methodNamed B.named B.method).1.trans z), B.returns, B.notSynchronized⟩ rfl rfl ad s.heap [] _ (fun _ _ => rfl) hP hD0.self va_S.rf hl
theorem cw_retv {l : Launch} {ii : cw_I} {mc ms : Nat} {h0 : cw_H} {h1 : cw_H} {kc ks pc : Nat} {lv : cw_LV} (hi : cw_okD ii) (hk : kc ≤ mc ∧ ks ≤ ms) (hd : cw_look (cw_tb ii) pc = some (.return_, 1)) (hr : cw_r ii = none) : cw_W l ii mc ms h0 none h1 kc ks pc lv [] h1 := by
  intro p e R s m args below meth c D cA ad0 hX hR1 hR2
  intro ad H locs ls hkp hP hD hS hl
  obtain ⟨hx, hb, hml, hown, hts, hKs, hfr, hlo, hnm, hret, hlocks⟩ := hX
  have hdg := hi.1 _ (cw_look_mem hd)
  refine W.widen hk.1 hk.2 ?_
  exact W.vret hx hb (hret.trans hr) (fun t ht hW => ⟨⟨ad, hkp, rfl, by rw [ht]; exact hP, hD⟩, hS.F ht⟩) hS.2.2 hdg hlocks
theorem cw_reti {l : Launch} {ii : cw_I} {mc ms : Nat} {h0 : cw_H} {h1 : cw_H} {v : Int32} {kc ks pc : Nat} {lv : cw_LV} (hi : cw_okD ii) (hk : kc ≤ mc ∧ ks ≤ ms) (hd : cw_look (cw_tb ii) pc = some (.ireturn, 1)) (hr : cw_r ii = some .int) : cw_W l ii mc ms h0 (some (.int v)) h1 kc ks pc lv [.int v] h1 := by
  intro p e R s m args below meth c D cA ad0 hX hR1 hR2
  intro ad H locs ls hkp hP hD hS hl
  obtain ⟨hx, hb, hml, hown, hts, hKs, hfr, hlo, hnm, hret, hlocks⟩ := hX
  have hdg := hi.1 _ (cw_look_mem hd)
  refine W.widen hk.1 hk.2 ?_
  exact W.iret hx hb (hret.trans hr) (fun t ht hW => ⟨⟨ad, hkp, rfl, by rw [ht]; exact hP, hD⟩, hS.F ht⟩) hS.2.2 hdg hlocks
theorem cw_retz {l : Launch} {ii : cw_I} {mc ms : Nat} {h0 : cw_H} {h1 : cw_H} {v : Int32} {kc ks pc : Nat} {lv : cw_LV} (hi : cw_okD ii) (hk : kc ≤ mc ∧ ks ≤ ms) (hd : cw_look (cw_tb ii) pc = some (.ireturn, 1)) (hr : cw_r ii = some .boolean) (hv : v = nI 0 ∨ v = nI 1) : cw_W l ii mc ms h0 (some (.int v)) h1 kc ks pc lv [.int v] h1 := by
  intro p e R s m args below meth c D cA ad0 hX hR1 hR2
  intro ad H locs ls hkp hP hD hS hl
  obtain ⟨hx, hb, hml, hown, hts, hKs, hfr, hlo, hnm, hret, hlocks⟩ := hX
  have hdg := hi.1 _ (cw_look_mem hd)
  refine W.widen hk.1 hk.2 ?_
  exact W.zret hx hb (hret.trans hr) (by rcases hv with rfl | rfl <;> decide +kernel) (fun t ht hW => ⟨⟨ad, hkp, rfl, by rw [ht]; exact hP, hD⟩, hS.F ht⟩) hS.2.2 hdg hlocks
theorem cw_z {mc ms : Nat} : 0 ≤ mc ∧ 0 ≤ ms := ⟨Nat.zero_le _, Nat.zero_le _⟩
/-- fewer locals, by their places -/
theorem cw_less {l : Launch} {ii : cw_I} {mc ms : Nat} {h0 : cw_H} {r : Option Value} {h1 : cw_H} {kc ks pc : Nat} {lv lv' : cw_LV} {st : List Value} {h : cw_H} (is : List Nat) (e : lv_pick lv is = lv') (k : cw_W l ii mc ms h0 r h1 kc ks pc lv' st h) : cw_W l ii mc ms h0 r h1 kc ks pc lv st h := by
  intro p e' R s m args below meth c D cA ad0 hX hR1 hR2 ad H locs ls hkp hP hD hS hl
  refine k p e' R s m args below meth c D cA ad0 hX hR1 hR2 ad H locs ls hkp hP hD hS (lv_sub hl is ?_)
  rw [← e]
  simp only [lv_pick, cw_L, List.getElem?_map, List.map_filterMap]
/-- another way to write what the method is to answer, or where it stands -/
theorem cw_eq {l : Launch} {ii : cw_I} {mc ms : Nat} {h0 : cw_H} {r r' : Option Value} {h1 h1' : cw_H} {kc ks pc : Nat} {lv lv' : cw_LV} {st st' : List Value} {h h' : cw_H} (er : r = r') (e1 : h1 = h1') (el : lv = lv') (es : st = st') (eh : h = h') (k : cw_W l ii mc ms h0 r' h1' kc ks pc lv' st' h') : cw_W l ii mc ms h0 r h1 kc ks pc lv st h := by
  subst er; subst e1; subst el; subst es; subst eh
  exact k
