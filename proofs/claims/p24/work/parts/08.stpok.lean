/-! one step of the abstract machine is a step of the machine -/
theorem cw_rf (ad : Nat → Nat) (x : Option Nat) : va_rf (x.map ad) = cw_v ad (va_rf x) := by cases x <;> rfl
section CWT
variable {p : Program} {l : Launch} {e : Env} {R : Room} {s : State} {m : MethodId} {args : Array Value} {below : List Frame} {meth : Method} {c : Code} {D : va_G} {cA : Nat → ClassId} {A : Nat → Prop} {keep : Nat → Prop} {ad0 : Nat → Nat} {Q : State → Prop} {kc ks : Nat}
set_option maxHeartbeats 4000000 in
theorem cw_stp_ok {ii : cw_I} {ins : ClassFile.Instr} {n j pc : Nat} {d : Bool} {nm : String} (hini : nm = "<init>" → meth.name = "<init>") {cr : Option Value × cw_H} {lv : cw_LV} {st : List Value} {h : cw_H} {K Kb Kj Kc : Nat → cw_LV → List Value → cw_H → Prop}
    (hX : cw_X ii p R s m args meth c D cA) (hk : kc ≤ R.cells ∧ ks ≤ R.slots) (hAs : ∀ q, s.heap.size ≤ q → A q) (hd : decode (cw_b ii) pc = .ok (ins, n)) (hlit : cw_lit ins = true)
    (hK : ∀ pc lv st h, K pc lv st h → cw_G p l e R s m args below meth c D cA A keep ad0 Q (cw_nL ii) kc ks pc lv st h)
    (hKb : ∀ pc lv st h, Kb pc lv st h → cw_G p l e R s m args below meth c D cA A keep ad0 Q (cw_nL ii) kc ks pc lv st h)
    (hKj : ∀ pc lv st h, Kj pc lv st h → cw_G p l e R s m args below meth c D cA A keep ad0 Q (cw_nL ii) kc ks pc lv st h)
    (hKc : ∀ pc lv st h, Kc pc lv st h → cw_G p l e R s m args below meth c D cA A keep ad0 Q (cw_nL ii) kc ks pc lv st h)
    (hs : cw_stp l (cw_c ii) (cw_f ii) (cw_nL ii) (decide (nm = "<init>")) ins n d j cr pc lv st h K Kb Kj Kc) : cw_G p l e R s m args below meth c D cA A keep ad0 Q (cw_nL ii) kc ks pc lv st h := by
  intro ad H locs ls hkp hP hD hS hl
  have hX0 := hX
  obtain ⟨hx, hb, hml, hown, hts, hKs, hfr, hlo, hnm, hret, hlocks⟩ := hX
  have hls : ls.size = cw_nL ii := hl.1
  unfold cw_stp at hs
  split at hs
  -- getfield
  · split at hs
    · split at hs
      · rename_i nest ci sl ci' fs e1 e2
        split at hs
        · rename_i v e3 e4
          cases Nat.eq_of_beq_eq_true e3
          obtain ⟨h4, hsl, hdc, hlk⟩ := cw_fok _ _ (cw_look_mem e1)
          dsimp only at h4 hsl hdc hlk
          have hv : (fs.map (cw_v ad))[sl]? = some (cw_v ad v) := by rw [List.getElem?_map, e4]; rfl
          rcases hlk with ⟨_, hlk⟩ | ⟨_, host, hlk⟩
          · exact va_get (ref := cw_own ci) hx hb hts (cw_in_u ci h4) hown hKs.1 hP _ (cw_w_get e2) (cw_cl ci h4) sl hsl (hts _ hlk) (fun x hx9 => by rw [hdc] at hx9; exact hx9) hv hd (hK _ _ _ _ hs ad H locs ls hkp hP hD hS hl)
          · exact va_getN (ref := cw_own ci) (host := host) hx hb hts (cw_in_u ci h4) hown hKs.1 hP _ (cw_w_get e2) (cw_cl ci h4) sl hsl (va_Nw.use rfl (hKs.2.2 _ hlk)) (fun x hx9 => by rw [hdc] at hx9; exact hx9) hv hd (hK _ _ _ _ hs ad H locs ls hkp hP hD hS hl)
        · exact hs.elim
      · exact hs.elim
    · exact hs.elim
  -- putfield
  · split at hs
    · split at hs
      · rename_i v a r _ _ nest ci sl ci' fs e1 e2
        obtain ⟨h4, hsl, hdc, hlk⟩ := cw_fok _ _ (cw_look_mem e1)
        dsimp only at h4 hsl hdc hlk
        have hset : (cw_w cA ad h).set a (ad a, .inr (ci, (fs.map (cw_v ad)).set sl (cw_v ad v))) = cw_w cA ad (h.set a (.inr (ci, fs.set sl v))) := by
          rw [cw_w_set]
          show _ = (cw_w cA ad h).set a (ad a, .inr (ci, (fs.set sl v).map (cw_v ad)))
          rw [List.map_set]
        split at hs
        · rename_i e3 e4 e5 e6
          cases Nat.eq_of_beq_eq_true e3
          have hfit := cw_fits_ok e4 ad
          have hlen : sl < (fs.map (cw_v ad)).length := by rw [List.length_map]; exact Nat.le_of_ble_eq_true e5
          have kk : ∀ (H1 : Heap) (locs1 : List Loc), va_P D vwCl ((cw_w cA ad h).set a (ad a, .inr (ci, (fs.map (cw_v ad)).set sl (cw_v ad v)))) H1 → va_D A ((cw_w cA ad h).set a (ad a, .inr (ci, (fs.map (cw_v ad)).set sl (cw_v ad v)))) → va_S A s.heap H1 locs1 → W p l e R s m args below meth c H1 locs1 kc ks Q (F0 m (pc + 3) ls (r.map (cw_v ad))) := by
            intro H1 locs1 hP1 hD1 hS1
            rw [hset] at hP1 hD1
            exact hK _ _ _ _ hs ad H1 locs1 ls hkp hP1 hD1 hS1 hl
          rcases hlk with ⟨_, hlk⟩ | ⟨_, host, hlk⟩
          · exact va_put (ref := cw_own ci) hx hb hts (cw_in_u ci h4) (cw_ty ci) (cw_tyok ci h4) (cw_nm ci h4) hown hKs.1 hP hD hS a (cw_w_get e2) (cw_cl ci h4) sl hsl (hts _ hlk) (fun x hx9 => by rw [hdc] at hx9; exact hx9) e6 (cw_tyok ci h4 sl hsl) hfit.1 hfit.2 hlen hd kk
          · exact va_putN (ref := cw_own ci) (host := host) hx hb hts (cw_in_u ci h4) (cw_ty ci) (cw_tyok ci h4) (cw_nm ci h4) hown hKs.1 hP hD hS a (cw_w_get e2) (cw_cl ci h4) sl hsl (va_Nw.use rfl (hKs.2.2 _ hlk)) (fun x hx9 => by rw [hdc] at hx9; exact hx9) e6 (cw_tyok ci h4 sl hsl) hfit.1 hfit.2 hlen hd kk
        · rename_i e3 e4 e5 e6 e7 e8 e9
          cases Nat.eq_of_beq_eq_true e3
          have hfit := cw_fits_ok e4 ad
          have hlen : sl < (fs.map (cw_v ad)).length := by rw [List.length_map]; exact Nat.le_of_ble_eq_true e5
          have kk : ∀ (H1 : Heap) (locs1 : List Loc), va_P D vwCl ((cw_w cA ad h).set a (ad a, .inr (ci, (fs.map (cw_v ad)).set sl (cw_v ad v)))) H1 → va_D A ((cw_w cA ad h).set a (ad a, .inr (ci, (fs.map (cw_v ad)).set sl (cw_v ad v)))) → va_S A s.heap H1 locs1 → W p l e R s m args below meth c H1 locs1 kc ks Q (F0 m (pc + 3) ls (r.map (cw_v ad))) := by
            intro H1 locs1 hP1 hD1 hS1
            rw [hset] at hP1 hD1
            exact hK _ _ _ _ hs ad H1 locs1 ls hkp hP1 hD1 hS1 hl
          have hnest : nest = 0 := Nat.eq_of_beq_eq_true e8
          have hcc : cw_c ii = ci := Nat.eq_of_beq_eq_true e9
          rcases hlk with ⟨_, hlk⟩ | ⟨h0, _⟩
          · exact va_putF (ref := cw_own ci) hx hb hts (cw_in_u ci h4) (cw_ty ci) (cw_tyok ci h4) (cw_nm ci h4) hown hKs.1 hP hD hS a (cw_w_get e2) (cw_cl ci h4) sl hsl (hts _ hlk) (fun x hx9 => by rw [hdc] at hx9; exact hx9) e6 (hini (of_decide_eq_true e7)) (by rw [hdc, hcc]) (cw_tyok ci h4 sl hsl) hfit.1 hfit.2 hlen hd kk
          · exact absurd (hnest.symm.trans h0) (by decide)
        · exact hs.elim
      · exact hs.elim
    · exact hs.elim
  -- arraylength
  · split at hs
    · split at hs
      · rename_i k x e1
        split at hs
        · rename_i e2
          have hk3 : k < 3 := Nat.le_of_ble_eq_true e2
          have hv : Int32.ofNat (cw_a ad x).1 = nI x.1 := by
            unfold cw_a; split <;> rfl
          have kk := hK _ _ _ _ hs ad H locs ls hkp hP hD hS hl
          match k, hk3, e1 with
          | 0, _, e1 => exact va_alen hx hb hKs.1 hP _ 0 (cw_w_get e1) (ty := .int) rfl hv hd kk
          | 1, _, e1 => exact va_alen hx hb hKs.1 hP _ 1 (cw_w_get e1) (ty := .char) rfl hv hd kk
          | 2, _, e1 => exact va_alen hx hb hKs.1 hP _ 2 (cw_w_get e1) (ty := .object RX1) rfl hv hd kk
        · exact hs.elim
      · exact hs.elim
    · exact hs.elim
  -- iaload
  · split at hs
    · split at hs
      · rename_i sz f e1
        split at hs
        · rename_i e2
          have h6 : sz ≤ 65536 := Nat.le_of_ble_eq_true e2
          obtain ⟨rfl, hj, hs⟩ := hs
          refine va_iald hx hb hKs.1 hP _ 0 (cw_w_get e1) rfl (vp_in_nI hj (by omega)) hd ?_
          rw [nI_clamp (by omega)]
          exact hKj _ _ _ _ hs ad H locs ls hkp hP hD hS hl
        · exact hs.elim
      · exact hs.elim
    · exact hs.elim
  -- caload
  · split at hs
    · split at hs
      · rename_i sz f e1
        split at hs
        · rename_i e2
          have h6 : sz ≤ 65536 := Nat.le_of_ble_eq_true e2
          obtain ⟨rfl, hj, hs⟩ := hs
          refine va_cald hx hb hKs.1 hP _ 1 (cw_w_get e1) rfl (vp_in_nI hj (by omega)) hd ?_
          rw [nI_clamp (by omega)]
          exact hKj _ _ _ _ hs ad H locs ls hkp hP hD hS hl
        · exact hs.elim
      · exact hs.elim
    · exact hs.elim
  -- aaload
  · split at hs
    · split at hs
      · rename_i sz f e1
        split at hs
        · rename_i e2
          have h6 : sz ≤ 65536 := Nat.le_of_ble_eq_true e2
          obtain ⟨rfl, hj, hs⟩ := hs
          refine va_aldq (C := RX1) (f := fun j => (f j).map ad) hx hb hKs.1 hP _ 2 (cw_w_get e1) rfl (vp_in_nI hj (by omega)) hd ?_
          rw [nI_clamp (by omega), cw_rf]
          exact hKj _ _ _ _ hs ad H locs ls hkp hP hD hS hl
        · exact hs.elim
      · exact hs.elim
    · exact hs.elim
  -- iastore
  · split at hs
    · split at hs
      · rename_i sz f e1
        split at hs
        · rename_i e2
          have h6 : sz ≤ 65536 := Nat.le_of_ble_eq_true e2
          obtain ⟨rfl, hj, hs⟩ := hs
          refine va_iast hx hb hKs.1 hP hD hS _ 0 (cw_w_get e1) rfl (vp_in_nI hj (by omega)) hd (fun H1 locs1 hP1 hD1 hS1 => ?_)
          rw [nI_clamp (by omega)] at hP1 hD1
          exact hKj _ _ _ _ hs ad H1 locs1 ls hkp (by rw [cw_w_set]; exact hP1) (by rw [cw_w_set]; exact hD1) hS1 hl
        · exact hs.elim
      · exact hs.elim
    · exact hs.elim
  -- castore
  · split at hs
    · split at hs
      · rename_i sz f e1
        split at hs
        · rename_i e2
          have h6 : sz ≤ 65536 := Nat.le_of_ble_eq_true e2
          obtain ⟨rfl, hj, hs⟩ := hs
          refine va_cast hx hb hKs.1 hP hD hS _ 1 (cw_w_get e1) rfl (vp_in_nI hj (by omega)) hd (fun H1 locs1 hP1 hD1 hS1 => ?_)
          rw [nI_clamp (by omega)] at hP1 hD1
          exact hKj _ _ _ _ hs ad H1 locs1 ls hkp (by rw [cw_w_set]; exact hP1) (by rw [cw_w_set]; exact hD1) hS1 hl
        · exact hs.elim
      · exact hs.elim
    · exact hs.elim
  -- aastore
  · split at hs
    · split at hs
      · rename_i q x a r _ _ sz f fs e1 e3
        split at hs
        · rename_i e2
          have h6 : sz ≤ 65536 := Nat.le_of_ble_eq_true e2
          obtain ⟨rfl, hj, hs⟩ := hs
          refine va_astq (ci := 1) (r := (RX1, TX1, 14)) (f := fun j => (f j).map ad) hx hb hKs.1 hP hD hS _ 2 q (cw_w_get e1) rfl (cw_w_get e3) rfl (vp_in_nI hj (by omega)) hd (fun H1 locs1 hP1 hD1 hS1 => ?_)
          rw [nI_clamp (by omega)] at hP1 hD1
          have hup : (va_up (fun j => (f j).map ad) j (some (ad q))) = fun i => (va_up f j (some q) i).map ad := by
            funext i
            unfold va_up
            by_cases hi : i = j
            · rw [if_pos hi, if_pos hi]; rfl
            · rw [if_neg hi, if_neg hi]
          rw [hup] at hP1 hD1
          exact hKj _ _ _ _ hs ad H1 locs1 ls hkp (by rw [cw_w_set]; exact hP1) (by rw [cw_w_set]; exact hD1) hS1 hl
        · exact hs.elim
      · exact hs.elim
    · exact hs.elim
  -- irem
  · split at hs
    · exact lv_irem hx hb hd hs.1 (hK _ _ _ _ hs.2 ad H locs ls hkp hP hD hS hl)
    · exact hs.elim
  -- ifCond
  · rename_i cd off
    split at hs
    · split at hs
      · obtain ⟨h1, h2⟩ := hs
        obtain ⟨t, ht, h3⟩ := cw_tgt_of h2
        have kk := hKb _ _ _ _ h3 ad H locs ls hkp hP hD hS hl
        cases cd
        · exact lv_if_eq hx hb hd ht (fun _ => kk) (fun q => absurd h1 q)
        · exact lv_if_ne hx hb hd ht (fun _ => kk) (fun q => absurd q h1)
        · exact lv_if_lt hx hb hd ht (fun _ => kk) (fun q => absurd h1 q)
        · exact lv_if_ge hx hb hd ht (fun _ => kk) (fun q => absurd h1 q)
        · exact lv_if_gt hx hb hd ht (fun _ => kk) (fun q => absurd h1 q)
        · exact lv_if_le hx hb hd ht (fun _ => kk) (fun q => absurd h1 q)
      · obtain ⟨h1, h2⟩ := hs
        obtain ⟨t, ht, h3⟩ := cw_tgt_of h2
        have kk := hKb _ _ _ _ h3 ad H locs ls hkp hP hD hS hl
        cases cd
        · exact lv_if_eq hx hb hd ht (fun q => absurd q h1) (fun _ => kk)
        · exact lv_if_ne hx hb hd ht (fun q => absurd q h1) (fun _ => kk)
        · exact lv_if_lt hx hb hd ht (fun q => absurd q h1) (fun _ => kk)
        · exact lv_if_ge hx hb hd ht (fun q => absurd q h1) (fun _ => kk)
        · exact lv_if_gt hx hb hd ht (fun q => absurd q h1) (fun _ => kk)
        · exact lv_if_le hx hb hd ht (fun q => absurd q h1) (fun _ => kk)
    · exact hs.elim
  -- if_icmp
  · rename_i cd off
    split at hs
    · split at hs
      · obtain ⟨h1, h2⟩ := hs
        obtain ⟨t, ht, h3⟩ := cw_tgt_of h2
        have kk := hKb _ _ _ _ h3 ad H locs ls hkp hP hD hS hl
        cases cd
        · exact lv_icmp_eq hx hb hd ht (fun _ => kk) (fun q => absurd h1 q)
        · exact lv_icmp_ne hx hb hd ht (fun _ => kk) (fun q => absurd q h1)
        · exact lv_icmp_lt hx hb hd ht (fun _ => kk) (fun q => absurd h1 q)
        · exact lv_icmp_ge hx hb hd ht (fun _ => kk) (fun q => absurd h1 q)
        · exact lv_icmp_gt hx hb hd ht (fun _ => kk) (fun q => absurd h1 q)
        · exact lv_icmp_le hx hb hd ht (fun _ => kk) (fun q => absurd h1 q)
      · obtain ⟨h1, h2⟩ := hs
        obtain ⟨t, ht, h3⟩ := cw_tgt_of h2
        have kk := hKb _ _ _ _ h3 ad H locs ls hkp hP hD hS hl
        cases cd
        · exact lv_icmp_eq hx hb hd ht (fun q => absurd q h1) (fun _ => kk)
        · exact lv_icmp_ne hx hb hd ht (fun q => absurd q h1) (fun _ => kk)
        · exact lv_icmp_lt hx hb hd ht (fun q => absurd q h1) (fun _ => kk)
        · exact lv_icmp_ge hx hb hd ht (fun q => absurd q h1) (fun _ => kk)
        · exact lv_icmp_gt hx hb hd ht (fun q => absurd q h1) (fun _ => kk)
        · exact lv_icmp_le hx hb hd ht (fun q => absurd q h1) (fun _ => kk)
    · exact hs.elim
  -- goto
  · split at hs
    · obtain ⟨t, ht, h3⟩ := cw_tgt_of hs
      exact lv_goto hx hb hd ht (hK _ _ _ _ h3 ad H locs ls hkp hP hD hS hl)
    · exact hs.elim
  -- ifnonnull
  · split at hs
    · obtain ⟨t, ht, h3⟩ := cw_tgt_of hs
      exact lv_ifnonnull hx hb hd ht (hK _ _ _ _ h3 ad H locs ls hkp hP hD hS hl)
    · exact lv_ifnonnullN hx hb hd (hK _ _ _ _ hs ad H locs ls hkp hP hD hS hl)
    · exact hs.elim
  -- tableswitch
  · rename_i dflt lo hi offs
    split at hs
    · rename_i x r
      split at hs
      · rename_i off e1
        obtain ⟨h1, h2, h3⟩ := hs
        obtain ⟨t, ht, h4⟩ := cw_tgt_of h3
        exact lv_tableIn hx hb hd (by omega) h2 (by rw [show (x.toInt - lo).toNat = j by omega]; exact e1) ht (hKj _ _ _ _ h4 ad H locs ls hkp hP hD hS hl)
      · obtain ⟨h1, h3⟩ := hs
        obtain ⟨t, ht, h4⟩ := cw_tgt_of h3
        exact lv_tableOut hx hb hd h1 ht (hKj _ _ _ _ h4 ad H locs ls hkp hP hD hS hl)
    · exact hs.elim
  -- lookupswitch
  · rename_i dflt ps
    split at hs
    · rename_i x r
      obtain ⟨hp, hs⟩ := hs
      split at hs
      · rename_i q e1
        obtain ⟨h1, h3⟩ := hs
        obtain ⟨t, ht, h4⟩ := cw_tgt_of h3
        exact lv_lookup hx hb hd hp h1 ht (hKj _ _ _ _ h4 ad H locs ls hkp hP hD hS hl)
      · obtain ⟨h1, h3⟩ := hs
        obtain ⟨t, ht, h4⟩ := cw_tgt_of h3
        exact lv_lookup hx hb hd hp h1 ht (hKj _ _ _ _ h4 ad H locs ls hkp hP hD hS hl)
    · exact hs.elim
  -- invokestatic
  · rename_i idx
    split at hs
    · rename_i _ _ ic e1
      have hlk := cw_clok _ _ (cw_look_mem e1)
      dsimp only at hlk
      split at hs
      · rename_i y x r
        split at hs
        · rename_i e2
          have h8 : (r.map fun v => v.category).sum ≤ 8 := Nat.le_of_ble_eq_true e2
          have hlk' : Cond.methodLink (cw_own (cw_c ii)) idx Lib.Math.max.name ∈ cw_T := by
            rcases hlk with ⟨h, _⟩ | ⟨h, _⟩ | ⟨h, _⟩ | ⟨h, _⟩ | ⟨h, _⟩ | ⟨h, _⟩ | ⟨h, _⟩ | ⟨h, _⟩ | ⟨_, h⟩ <;> first | exact h | exact absurd h (by decide)
          exact va_mmax hx hb (by rw [hml, hls]) hown (hts _ hlk') (hts _ cw_g_ms) (hts _ cw_g_math) (hts _ cw_g_mc) (by omega) (by rw [cw_cats]; omega) hk.1 hk.2 hd (hK _ _ _ _ hs ad H locs ls hkp hP hD hS hl)
        · exact hs.elim
      · exact hs.elim
    · rename_i _ _ ic e1
      have hlk := cw_clok _ _ (cw_look_mem e1)
      dsimp only at hlk
      split at hs
      · rename_i z y b x a r
        split at hs
        · rename_i n0 f n1 g e2 e3 e4
          have h8 : (r.map fun v => v.category).sum ≤ 8 := Nat.le_of_ble_eq_true e4
          have hlk' : Cond.methodLink (cw_own (cw_c ii)) idx arraycopyName ∈ cw_T := by
            rcases hlk with ⟨h, _⟩ | ⟨h, _⟩ | ⟨h, _⟩ | ⟨h, _⟩ | ⟨h, _⟩ | ⟨h, _⟩ | ⟨h, _⟩ | ⟨_, h⟩ | ⟨h, _⟩ <;> first | exact h | exact absurd h (by decide)
          obtain ⟨rfl, rfl, rfl, q1, q2, q3, hs⟩ := hs
          have hnw : nativeFrameWords "java/lang/System" "arraycopy" 5 ≤ 12 := by decide +kernel
          have c0 : (nI 0).toNatClampNeg = 0 := nI_clamp (by omega)
          have cj : (nI j).toNatClampNeg = j := nI_clamp (by omega)
          refine va_copyi hx hb (by rw [hml, hls]) hown (hts _ hlk') (hts _ cw_g_cpn) (hts _ cw_g_cps) (hts _ cw_g_sys) hKs.1 hP hD hS _ _ 0 0 (cw_w_get e2) (cw_w_get e3) rfl rfl rfl (nI_pos (by omega)) (nI_pos (by omega)) (nI_pos (by omega)) (by rw [c0, cj]; omega) (by rw [c0, cj]; omega) (fun i _ => rfl) (by omega) (by rw [cw_cats]; omega) hd (fun H1 locs1 hP1 hD1 hS1 => ?_)
          rw [c0, cj] at hP1 hD1
          exact hKj _ _ _ _ hs ad H1 locs1 ls hkp (by rw [cw_w_set]; exact hP1) (by rw [cw_w_set]; exact hD1) hS1 hl
        · exact hs.elim
      · exact hs.elim
    · rename_i _ _ kd ic _ _ e1
      have hlk := cw_clok _ _ (cw_look_mem e1)
      dsimp only at hlk
      split at hs
      · rename_i e2 e3 e4 e5
        have hkd : kd = 1 ∨ kd = 4 := by
          rcases Bool.or_eq_true _ _ ▸ e2 with h | h
          · exact Or.inl (Nat.eq_of_beq_eq_true h)
          · exact Or.inr (Nat.eq_of_beq_eq_true h)
        exact cw_callS hX0 hk hAs hd hlk hkd (Nat.le_of_ble_eq_true e3) (Nat.le_of_ble_eq_true e4) (Nat.le_of_ble_eq_true e5) hs.2.1 hs.1 hP hD hS hls (fun H1 locs1 hP1 hD1 hS1 => hKc _ _ _ _ hs.2.2 ad H1 locs1 ls hkp hP1 hD1 hS1 hl)
      · exact hs.elim
    · exact hs.elim
  -- invokevirtual
  · split at hs
    · rename_i _ _ kd ic e1
      have hlk := cw_clok _ _ (cw_look_mem e1)
      dsimp only at hlk
      split at hs
      · rename_i a r e0
        split at hs
        · rename_i ci fs e9
          split at hs
          · rename_i e2 e3 e4 e5 e7 e8
            have hkd : kd = 0 ∨ kd = 3 := by
              rcases Bool.or_eq_true _ _ ▸ e2 with h | h
              · exact Or.inl (Nat.eq_of_beq_eq_true h)
              · exact Or.inr (Nat.eq_of_beq_eq_true h)
            exact cw_callV hX0 hk hAs hd hlk hkd (Nat.le_of_ble_eq_true e3) (Nat.le_of_ble_eq_true e4) e0 (Nat.le_of_ble_eq_true e5) hs.2.1 e9 (Nat.eq_of_beq_eq_true e7) (Nat.le_of_ble_eq_true e8) hs.1 hP hD hS hls (fun H1 locs1 hP1 hD1 hS1 => hKc _ _ _ _ hs.2.2 ad H1 locs1 ls hkp hP1 hD1 hS1 hl)
          · exact hs.elim
        · exact hs.elim
      · exact hs.elim
    · exact hs.elim
  -- invokespecial
  · rename_i idx
    split at hs
    · rename_i _ _ _ ic a r e1
      have hlk := cw_clok _ _ (cw_look_mem e1)
      dsimp only at hlk
      split at hs
      · rename_i e2
        have h8 : (r.map fun v => v.category).sum ≤ 8 := Nat.le_of_ble_eq_true e2
        have hlk' : Cond.methodLink (cw_own (cw_c ii)) idx objectInit ∈ cw_T := by
          rcases hlk with ⟨h, _⟩ | ⟨h, _⟩ | ⟨h, _⟩ | ⟨h, _⟩ | ⟨h, _⟩ | ⟨h, _⟩ | ⟨_, h⟩ | ⟨h, _⟩ | ⟨h, _⟩ <;> first | exact h | exact absurd h (by decide)
        refine W.objInit hx hb hown (hts _ hlk') (hts _ cw_g_oi1) (hts _ cw_g_oi2) rfl (by rw [hml]; exact hls) rfl hd (by omega) (by rw [cw_cats]; show 2 * 0 + _ + 12 ≤ _; omega) ?_
        exact hK _ _ _ _ hs ad H locs ls hkp hP hD hS hl
      · exact hs.elim
    · exact hs.elim
  -- the others
  · split at hs
    · rename_i n' lv' st' e1
      split at hs
      · rename_i e2
        cases Nat.eq_of_beq_eq_true e2
        exact cw_pure_ok hx hb hts hown hd hlit e1 hl (fun ls' hl' => hK _ _ _ _ hs ad H locs ls' hkp hP hD hS hl')
      · exact hs.elim
    · exact hs.elim
end CWT
