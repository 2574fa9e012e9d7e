/-! contracts over the abstract heap, and the steps that touch heap, branches and calls -/
def cw_Q (D : va_G) (cA : Nat → ClassId) (ad : Nat → Nat) (h : cw_H) (r : Option Value) (h' : cw_H) (A : Nat → Prop) : Array Value → State → Outcome → State → Prop := fun _ st oc t => (∃ ad' : Nat → Nat, (∀ k, k < h.length ∨ h'.length ≤ k → ad' k = ad k) ∧ oc = .returned (r.map (cw_v ad')) ∧ va_P D vwCl (cw_w cA ad' h') t.heap ∧ va_D A (cw_w cA ad' h')) ∧ va_F A st t
/-- the contract of one call: from the arguments av and the heap h the method answers r, and the heap is h' -/
def cw_M (l : Launch) (i : cw_I) (mc ms : Nat) (av : List Value) (h : cw_H) (r : Option Value) (h' : cw_H) : Prop :=
  ∀ (D : va_G) (cA : Nat → ClassId) (ad : Nat → Nat) (sz : Nat), Met l i.1 (Cond.code i.1 (cw_b i) (cw_nL i) (cw_r i) :: cw_T) ({ frames := cw_f i, cells := mc, slots := ms, locals := 35 * cw_f i }) (va_Pc (av.map (cw_v ad)) (fun U => U.heap.size = sz ∧ va_P D vwCl (cw_w cA ad h) U.heap ∧ cw_K D cA U ∧ va_D (fun _ => True) (cw_w cA ad h))) (cw_Q D cA ad h r h' (va_A (cw_w cA ad h) sz)) mc ms (va_A (cw_w cA ad h) sz)
def cw_tgt (pc : Nat) (off : Int) (K : Nat → Prop) : Prop := match (pc : Int) + off with
  | .ofNat t => K t
  | .negSucc _ => False
theorem cw_tgt_of {pc : Nat} {off : Int} {K : Nat → Prop} (h : cw_tgt pc off K) : ∃ t : Nat, (pc : Int) + off = (t : Int) ∧ K t := by
  unfold cw_tgt at h
  split at h
  · rename_i t e; exact ⟨t, e, h⟩
  · exact h.elim
def cw_if (cd : ClassFile.Cond) (x y : Int32) : Prop := match cd with
  | .eq => x = y
  | .ne => ¬ x = y
  | .lt => x < y
  | .ge => y ≤ x
  | .gt => y < x
  | .le => x ≤ y
/-- may a value be put into a field of the class ci, slot sl? -/
def cw_fits (ci sl : Nat) (v : Value) : Bool := match cw_ty ci sl, v with
  | .int, .int _ => true
  | .object _, .ref _ => true
  | .array _, .ref _ => true
  | _, _ => false
theorem cw_fits_ok {ci sl : Nat} {v : Value} (h : cw_fits ci sl v = true) (ad : Nat → Nat) : narrow (cw_ty ci sl) (cw_v ad v) = cw_v ad v ∧ fits (cw_ty ci sl) (cw_v ad v) = true := by
  unfold cw_fits at h
  split at h
  · rename_i e; rw [e]; exact ⟨vp_nar_int _, rfl⟩
  · rename_i e; rw [e]; exact ⟨rfl, rfl⟩
  · rename_i e; rw [e]; exact ⟨rfl, rfl⟩
  · cases h
/-- one step; K: it goes on; Kb behind a branch, Kj behind a row's place or a switch, Kc behind a call -/
def cw_stp (l : Launch) (c fr : Nat) (nL : Nat) (ini : Bool) (i : ClassFile.Instr) (n : Nat) (d : Bool) (j : Nat) (cr : Option Value × cw_H) (pc : Nat) (lv : cw_LV) (st : List Value) (h : cw_H) (K Kb Kj Kc : Nat → cw_LV → List Value → cw_H → Prop) : Prop := match i with
  | .getfield idx => match n, st with
    | 3, .ref a :: r => match cw_look (cw_flds c) idx, h[a]? with
      | some (_, ci, sl), some (.inr (ci', fs)) => match Nat.beq ci' ci, fs[sl]? with
        | true, some v => K (pc + 3) lv (v :: r) h
        | _, _ => False
      | _, _ => False
    | _, _ => False
  | .putfield idx => match n, st with
    | 3, v :: .ref a :: r => match cw_look (cw_flds c) idx, h[a]? with
      | some (nest, ci, sl), some (.inr (ci', fs)) => match Nat.beq ci' ci, cw_fits ci sl v, Nat.blt sl fs.length, (cw_FT ci sl).2.2.2, ini, Nat.beq nest 0, Nat.beq c ci with
        | true, true, true, false, _, _, _ => K (pc + 3) lv r (h.set a (.inr (ci, fs.set sl v)))
        | true, true, true, true, true, true, true => K (pc + 3) lv r (h.set a (.inr (ci, fs.set sl v)))
        | _, _, _, _, _, _, _ => False
      | _, _ => False
    | _, _ => False
  | .arraylength => match n, st with
    | 1, .ref a :: r => match h[a]? with
      | some (.inl (k, x)) => match Nat.blt k 3 with
        | true => K (pc + 1) lv (.int (nI x.1) :: r) h
        | false => False
      | _ => False
    | _, _ => False
  | .iaload => match n, st with
    | 1, .int x :: .ref a :: r => match h[a]? with
      | some (.inl (0, sz, .inl f)) => match Nat.ble sz 65536 with
        | true => x = nI j ∧ j < sz ∧ Kj (pc + 1) lv (.int (f j) :: r) h
        | false => False
      | _ => False
    | _, _ => False
  | .caload => match n, st with
    | 1, .int x :: .ref a :: r => match h[a]? with
      | some (.inl (1, sz, .inl f)) => match Nat.ble sz 65536 with
        | true => x = nI j ∧ j < sz ∧ Kj (pc + 1) lv (.int (f j) :: r) h
        | false => False
      | _ => False
    | _, _ => False
  | .aaload => match n, st with
    | 1, .int x :: .ref a :: r => match h[a]? with
      | some (.inl (2, sz, .inr (.inr (.inr (.inr f))))) => match Nat.ble sz 65536 with
        | true => x = nI j ∧ j < sz ∧ Kj (pc + 1) lv (va_rf (f j) :: r) h
        | false => False
      | _ => False
    | _, _ => False
  | .iastore => match n, st with
    | 1, .int y :: .int x :: .ref a :: r => match h[a]? with
      | some (.inl (0, sz, .inl f)) => match Nat.ble sz 65536 with
        | true => x = nI j ∧ j < sz ∧ Kj (pc + 1) lv r (h.set a (.inl (0, sz, .inl (upd f j y))))
        | false => False
      | _ => False
    | _, _ => False
  | .castore => match n, st with
    | 1, .int y :: .int x :: .ref a :: r => match h[a]? with
      | some (.inl (1, sz, .inl f)) => match Nat.ble sz 65536 with
        | true => x = nI j ∧ j < sz ∧ Kj (pc + 1) lv r (h.set a (.inl (1, sz, .inl (upd f j (vp_nar .char y)))))
        | false => False
      | _ => False
    | _, _ => False
  | .aastore => match n, st with
    | 1, .ref q :: .int x :: .ref a :: r => match h[a]?, h[q]? with
      | some (.inl (2, sz, .inr (.inr (.inr (.inr f))))), some (.inr (1, _)) => match Nat.ble sz 65536 with
        | true => x = nI j ∧ j < sz ∧ Kj (pc + 1) lv r (h.set a (.inl (2, sz, .inr (.inr (.inr (.inr (va_up f j (some q))))))))
        | false => False
      | _, _ => False
    | _, _ => False
  | .irem => match n, st with
    | 1, .int y :: .int x :: r => ¬ y = 0 ∧ K (pc + 1) lv (.int (x - x / y * y) :: r) h
    | _, _ => False
  | .ifCond cd off => match n, st with
    | 3, .int x :: r => match d with
      | true => cw_if cd x 0 ∧ cw_tgt pc off (fun t => Kb t lv r h)
      | false => ¬ cw_if cd x 0 ∧ cw_tgt pc off (fun _ => Kb (pc + 3) lv r h)
    | _, _ => False
  | .if_icmp cd off => match n, st with
    | 3, .int y :: .int x :: r => match d with
      | true => cw_if cd x y ∧ cw_tgt pc off (fun t => Kb t lv r h)
      | false => ¬ cw_if cd x y ∧ cw_tgt pc off (fun _ => Kb (pc + 3) lv r h)
    | _, _ => False
  | .goto off => match n with
    | 3 => cw_tgt pc off (fun t => K t lv st h)
    | _ => False
  | .ifnonnull off => match n, st with
    | 3, .ref _ :: r => cw_tgt pc off (fun t => K t lv r h)
    | 3, .null :: r => K (pc + 3) lv r h
    | _, _ => False
  | .tableswitch dflt lo hi offs => match st with
    | .int x :: r => match offs[j]? with
      | some off => x.toInt = lo + (j : Int) ∧ ¬ hi < x.toInt ∧ cw_tgt pc off (fun t => Kj t lv r h)
      | none => (x.toInt < lo ∨ hi < x.toInt) ∧ cw_tgt pc dflt (fun t => Kj t lv r h)
    | _ => False
  | .lookupswitch dflt ps => match st with
    | .int x :: r => (ps.toList.zip (ps.toList.drop 1)).all (fun (a, next) => a.1 < next.1) = true ∧ match ps[j]? with
      | some q => Op.lookupswitch.offset ps.toList dflt x.toInt = q.2 ∧ cw_tgt pc q.2 (fun t => Kj t lv r h)
      | none => Op.lookupswitch.offset ps.toList dflt x.toInt = dflt ∧ cw_tgt pc dflt (fun t => Kj t lv r h)
    | _ => False
  | .invokestatic idx => match n, cw_look (cw_cls c) idx with
    | 3, some (8, _) => match st with
      | .int y :: .int x :: r => match Nat.ble ((r.map fun v => v.category).sum) 8 with
        | true => K (pc + 3) lv (.int (if x < y then y else x) :: r) h
        | false => False
      | _ => False
    | 3, some (7, _) => match st with
      | .int z :: .int y :: .ref b :: .int x :: .ref a :: r => match h[a]?, h[b]?, Nat.ble ((r.map fun v => v.category).sum) 8 with
        | some (.inl (0, n0, .inl f)), some (.inl (0, n1, .inl g)), true => x = nI 0 ∧ y = nI 0 ∧ z = nI j ∧ j ≤ n0 ∧ j ≤ n1 ∧ j < 65536 ∧ Kj (pc + 3) lv r (h.set b (.inl (0, n1, .inl (va_cpy f g 0 0 j))))
        | _, _, _ => False
      | _ => False
    | 3, some (kd, ic) => match Nat.beq kd 1 || Nat.beq kd 4, Nat.ble (cw_na ic) st.length, Nat.blt (cw_f ic) fr, Nat.ble (((st.drop (cw_na ic)).map fun v => v.category).sum) 8 with
      | true, true, true, true => cw_M l ic 0 0 (st.take (cw_na ic)).reverse h cr.1 cr.2 ∧ cr.2.length ≤ h.length ∧ Kc (pc + 3) lv (cr.1.toList ++ st.drop (cw_na ic)) cr.2
      | _, _, _, _ => False
    | _, _ => False
  | .invokevirtual idx => match n, cw_look (cw_cls c) idx with
    | 3, some (kd, ic) => match st.drop (cw_na ic) with
      | .ref a :: r => match h[a]? with
        | some (.inr (ci, _)) => match Nat.beq kd 0 || Nat.beq kd 3, Nat.ble (cw_na ic) st.length, Nat.blt (cw_f ic) fr, Nat.ble ((r.map fun v => v.category).sum) 8, Nat.beq ci (cw_c ic), Nat.blt ci 3 with
          | true, true, true, true, true, true => cw_M l ic 0 0 (.ref a :: (st.take (cw_na ic)).reverse) h cr.1 cr.2 ∧ cr.2.length ≤ h.length ∧ Kc (pc + 3) lv (cr.1.toList ++ r) cr.2
          | _, _, _, _, _, _ => False
        | _ => False
      | _ => False
    | _, _ => False
  | .invokespecial idx => match n, cw_look (cw_cls c) idx, st with
    | 3, some (6, _), .ref _ :: r => match Nat.ble ((r.map fun v => v.category).sum) 8 with
      | true => K (pc + 3) lv r h
      | false => False
    | _, _, _ => False
  | i => match cw_pure c nL i lv st with
    | some (n', lv', st') => match Nat.beq n' n with
      | true => K (pc + n) lv' st' h
      | false => False
    | none => False
