section SN4
variable {p : Program} {l : Launch} {e0 : Env} {R : Room} {s : State} {m : MethodId} {args : Array Value} {below : List Frame} {meth : Method} {cd : Code} {Q : State → Prop}
variable {dC : Nat → ClassId} {dI : Nat → Nat → Nat} {dA : Nat → ClassId} {q : Nat → Nat → Nat} {wl : List (Nat × Nat)} {A : Nat → Prop} {nL : Nat} {bytes : ByteArray} {own : String} {C : List IE}
variable {ret : Option FieldType} {MT : List MD} {FL ML : FLT} {CI : CIT} {CJ : CJT}
variable {pc ln a b c e ix : Nat} {ins : Instr} {v : Int32} {w : Int64} {ts : List (Int32 × Nat)} {ks : List Nat} {L st : List AV} {h : AH} {y : Cf}
theorem swt_in (x : Int32) (d : Nat) : ∀ ts : List (Int32 × Nat), (∃ t ∈ ts, t.1 = x ∧ swt x d ts = t.2) ∨ ((∀ t ∈ ts, t.1 ≠ x) ∧ swt x d ts = d)
  | [] => Or.inr ⟨fun t ht => absurd ht List.not_mem_nil, rfl⟩
  | t :: r => by
    by_cases hx : x = t.1
    · exact Or.inl ⟨t, List.mem_cons_self, hx.symm, by show (if x = t.1 then t.2 else swt x d r) = t.2; rw [if_pos hx]⟩
    · have e : swt x d (t :: r) = swt x d r := by show (if x = t.1 then t.2 else swt x d r) = _; rw [if_neg hx]
      rcases swt_in x d r with ⟨t2, h1, h2, h3⟩ | ⟨h1, h2⟩
      · exact Or.inl ⟨t2, List.mem_cons_of_mem _ h1, h2, by rw [e]; exact h3⟩
      · refine Or.inr ⟨fun t2 ht => ?_, by rw [e]; exact h2⟩
        rcases List.mem_cons.mp ht with rfl | ht
        · exact fun z => hx z.symm
        · exact h1 t2 ht
theorem swt_look (C : List IE) (x : Int32) (b pc : Nat) (dflt : Int) (hb : (pc : Int) + dflt = (pcA C b : Nat)) : ∀ (ts : List (Int32 × Nat)) (ps : List (Int × Int)), ts.map (fun t => (t.1.toInt, ((pcA C t.2 : Nat) : Int))) = ps.map (fun t => (t.1, (pc : Int) + t.2)) → (pc : Int) + Op.lookupswitch.offset ps dflt x.toInt = (pcA C (swt x b ts) : Nat)
  | [], [], _ => hb
  | [], _ :: _, hh => by cases hh
  | _ :: _, [], hh => by cases hh
  | t :: r, (k, o) :: rs, hh => by
    simp only [List.map_cons, List.cons.injEq, Prod.mk.injEq] at hh
    obtain ⟨⟨h1, h2⟩, h3⟩ := hh
    show (pc : Int) + (if k = x.toInt then o else Op.lookupswitch.offset rs dflt x.toInt) = ((pcA C (if x = t.1 then t.2 else swt x b r) : Nat) : Int)
    by_cases hx : x = t.1
    · rw [if_pos hx, if_pos (by rw [← h1, hx]), ← h2]
    · rw [if_neg hx, if_neg (fun z => hx (Int32.toInt_inj.mp (by rw [h1, z]))), swt_look C x b pc dflt hb r rs h3]
set_option maxHeartbeats 4000000 in
theorem sn_35 (X : Cx p s m args meth cd dC dI dA own bytes nL ret) (hd : decode bytes (pcA C ix) = .ok (ins, ln)) (ho : okO MT FL ML CI CJ own C ix (pcA C ix, ln, 35, ins, a, b, c, e, v, w, ts, ks) = true)
    (hs : stepI 35 a b c e v w ts ix L st h = some y) (hy : At_ p l e0 R s m args below meth cd Q dC dI dA q wl A nL C y) : At_ p l e0 R s m args below meth cd Q dC dI dA q wl A nL C (ix, L, st, h) := by
  obtain ⟨hx, hb, hml, hr, hlk, hown, hts, hK, hNW⟩ := X
  simp only [stepI] at hs
  split at hs
  · rename_i x r
    cases hs
    intro hL hst hlen ls H locs hl hw
    have K := hy hL hst.tail hlen ls H locs hl hw
    simp only [okO, swOk] at ho
    split at ho
    · rename_i dflt ps
      simp only [Bool.and_eq_true, decide_eq_true_eq] at ho
      obtain ⟨⟨h1, h2⟩, h3⟩ := ho
      exact lv_lookup (tgt := pcA C (swt x b ts)) hx hb hd h2 rfl (swt_look C x b _ dflt h1 ts ps.toList h3) K
    · rename_i dflt lo hi offs
      simp only [Bool.and_eq_true, decide_eq_true_eq] at ho
      obtain ⟨⟨h1, h2⟩, h3⟩ := ho
      rcases swt_in x b ts with ⟨t, e1, e2, e3⟩ | ⟨e1, e2⟩
      · have hm : (t.1.toInt, ((pcA C t.2 : Nat) : Int)) ∈ ts.map (fun t => (t.1.toInt, ((pcA C t.2 : Nat) : Int))) := List.mem_map.mpr ⟨t, e1, rfl⟩
        rw [h2] at hm
        obtain ⟨j, hj, hjj⟩ := List.mem_map.mp hm
        have hj := List.mem_range.mp hj
        simp only [Prod.mk.injEq] at hjj
        obtain ⟨f1, f2⟩ := hjj
        rw [e2] at f1
        have ej : (x.toInt - lo).toNat = j := by have : Int.ofNat j = (j : Int) := rfl; omega
        refine lv_tableIn (tgt := pcA C (swt x b ts)) (off := offs.getD j 0) hx hb hd (by have : Int.ofNat j = (j : Int) := rfl; omega) (by have : Int.ofNat j = (j : Int) := rfl; omega) ?_ ?_ K
        · rw [ej]
          simp [hj]
        · rw [e3]
          exact f2
      · refine lv_tableOut (tgt := pcA C (swt x b ts)) hx hb hd ?_ ?_ K
        · by_cases hlo : x.toInt < lo
          · exact Or.inl hlo
          · by_cases hhi : hi < x.toInt
            · exact Or.inr hhi
            · exfalso
              have hm : (x.toInt, (pcA C ix : Int) + offs.getD (x.toInt - lo).toNat 0) ∈ (List.range offs.size).map (fun (j : Nat) => (lo + Int.ofNat j, (pcA C ix : Int) + offs.getD j 0)) := by
                refine List.mem_map.mpr ⟨(x.toInt - lo).toNat, List.mem_range.mpr (by omega), ?_⟩
                simp only [Prod.mk.injEq, and_true]
                have : Int.ofNat (x.toInt - lo).toNat = ((x.toInt - lo).toNat : Int) := rfl
                omega
              rw [← h2] at hm
              obtain ⟨t, ht, hte⟩ := List.mem_map.mp hm
              simp only [Prod.mk.injEq] at hte
              exact e1 t ht (Int32.toInt_inj.mp hte.1)
        · rw [e2]
          exact h1
    · cases ho
  · cases hs
def mdB (md : MD) : Prop := Cond.code md.2.1 md.2.2.1 md.2.2.2.1 md.2.2.2.2.1 ∈ lw_g ∧ Cond.initialized md.2.1.cls ∈ lw_g ∧ plainFor md.2.1 = true ∧ (md.2.1.cls ≠ "java/lang/invoke/MethodHandle" ∧ md.2.1.cls ≠ "java/lang/invoke/VarHandle") ∧ md.1 = md.2.1.cls ∧ md.2.2.2.1 ≤ 21
def MLok (MT : List MD) (t : String × Nat × Nat × Nat) : Prop := match t.2.2.1 with
  | 9 => Cond.methodLink t.1 t.2.1 arraycopyName ∈ lw_g
  | 0 => ∃ md, MT[t.2.2.2]? = some md ∧ mdB md ∧ Cond.methodLink t.1 t.2.1 md.2.1 ∈ lw_g ∧ Cond.instanceMethod md.2.1 ∈ lw_g ∧ Cond.selects md.2.1.cls md.2.1 md.2.1 ∈ lw_g
  | 1 => ∃ md, MT[t.2.2.2]? = some md ∧ mdB md ∧ Cond.methodLink t.1 t.2.1 md.2.1 ∈ lw_g ∧ Cond.static md.2.1 ∈ lw_g
  | _ => ∃ md, MT[t.2.2.2]? = some md ∧ mdB md ∧ (∃ host, (t.1, t.2.1, md.2.1, host) ∈ NW) ∧ Cond.static md.2.1 ∈ lw_g
theorem cp_nat : Cond.native arraycopyName ∈ lw_g := lw_gi (by decide +kernel) rfl
theorem cp_st : Cond.static arraycopyName ∈ lw_g := lw_gi (by decide +kernel) rfl
theorem cp_in : Cond.initialized "java/lang/System" ∈ lw_g := lw_gi (by decide +kernel) rfl
theorem cpy_hcp {h : AH} {k0 i0 k1 i1 sp dp n : Nat} : va_cpy (h.1 k0 i0) (h.1 k1 i1) sp dp n = (hcp h k0 i0 k1 i1 sp dp n).1 k1 i1 := by
  funext j
  show (if dp ≤ j ∧ j < dp + n then h.1 k0 i0 (sp + (j - dp)) else h.1 k1 i1 j) = if k1 = k1 ∧ i1 = i1 ∧ dp ≤ j ∧ j < dp + n then h.1 k0 i0 (sp + (j - dp)) else h.1 k1 i1 j
  by_cases hc : dp ≤ j ∧ j < dp + n
  · rw [if_pos hc, if_pos ⟨rfl, rfl, hc⟩]
  · rw [if_neg hc, if_neg (fun z => hc z.2.2)]
theorem cpy_hcpL {h : AH} {k0 i0 k1 i1 sp dp n : Nat} : va_cpy (h.2 k0 i0) (h.2 k1 i1) sp dp n = (hcpL h k0 i0 k1 i1 sp dp n).2 k1 i1 := by
  funext j
  show (if dp ≤ j ∧ j < dp + n then h.2 k0 i0 (sp + (j - dp)) else h.2 k1 i1 j) = if k1 = k1 ∧ i1 = i1 ∧ dp ≤ j ∧ j < dp + n then h.2 k0 i0 (sp + (j - dp)) else h.2 k1 i1 j
  by_cases hc : dp ≤ j ∧ j < dp + n
  · rw [if_pos hc, if_pos ⟨rfl, rfl, hc⟩]
  · rw [if_neg hc, if_neg (fun z => hc z.2.2)]
theorem hcp_other {h : AH} {k0 i0 k1 i1 sp dp n a b : Nat} (hne : (a, b) ≠ (k1, i1)) : (hcp h k0 i0 k1 i1 sp dp n).1 a b = h.1 a b ∧ (hcp h k0 i0 k1 i1 sp dp n).2 a b = h.2 a b := by
  refine ⟨?_, rfl⟩
  funext c
  show (if a = k1 ∧ b = i1 ∧ dp ≤ c ∧ c < dp + n then h.1 k0 i0 (sp + (c - dp)) else h.1 a b c) = h.1 a b c
  rw [if_neg]
  rintro ⟨rfl, rfl, -⟩
  exact hne rfl
theorem hcpL_other {h : AH} {k0 i0 k1 i1 sp dp n a b : Nat} (hne : (a, b) ≠ (k1, i1)) : (hcpL h k0 i0 k1 i1 sp dp n).1 a b = h.1 a b ∧ (hcpL h k0 i0 k1 i1 sp dp n).2 a b = h.2 a b := by
  refine ⟨rfl, ?_⟩
  funext c
  show (if a = k1 ∧ b = i1 ∧ dp ≤ c ∧ c < dp + n then h.2 k0 i0 (sp + (c - dp)) else h.2 a b c) = h.2 a b c
  rw [if_neg]
  rintro ⟨rfl, rfl, -⟩
  exact hne rfl
set_option maxHeartbeats 4000000 in
theorem sn_36 (X : Cx p s m args meth cd dC dI dA own bytes nL ret) (hML : ∀ t ∈ ML, MLok MT t) (hW : WOK wl) (hR : 1 ≤ R.frames ∧ 60 ≤ R.locals) (hd : decode bytes (pcA C ix) = .ok (ins, ln)) (ho : okO MT FL ML CI CJ own C ix (pcA C ix, ln, 36, ins, a, b, c, e, v, w, ts, ks) = true) (hn : pcA C (ix + 1) = pcA C ix + ln)
    (hs : stepI 36 a b c e v w ts ix L st h = some y) (hy : At_ p l e0 R s m args below meth cd Q dC dI dA q wl A nL C y) : At_ p l e0 R s m args below meth cd Q dC dI dA q wl A nL C (ix, L, st, h) := by
  obtain ⟨hx, hb, hml, hr, hlk, hown, hts, hK, hNW⟩ := X
  simp only [okO] at ho
  split at ho
  · rename_i idx
    simp only [Bool.and_eq_true, decide_eq_true_eq] at ho
    obtain ⟨rfl, hMe⟩ := ho
    have hM : Cond.methodLink own idx arraycopyName ∈ lw_g := hML _ (List.mem_of_getElem? hMe)
    simp only [stepI] at hs
    split at hs
    · rename_i n dp k1 i1 sp k0 i0
      split at hs
      · rename_i n0 z0 n1 z1 hk0 hk1
        split at hs
        · rename_i hg
          cases hs
          intro hL hst hlen ls H locs hl hw
          obtain ⟨p0, hp0, hws0⟩ := ws_get (dA := dA) (q := q) h hst.tail.tail.tail.tail.hd
          obtain ⟨p1, hp1, hws1⟩ := ws_get (dA := dA) (q := q) h hst.tail.tail.hd
          rw [ent_0 hk0] at hws0
          rw [ent_0 hk1] at hws1
          refine va_copyi (D := (dC, dI)) (cl := vwCl) (ty := .int) hx hb (hml.trans hl.1.symm) hown (hts _ hM) (hts _ cp_nat) (hts _ cp_st) (hts _ cp_in) hK hw.1 hw.2.1 hw.2.2 p0 p1 0 0 hws0 hws1 rfl rfl rfl hg.1.1 hg.1.2.1 hg.1.2.2 hg.2.1 hg.2.2 (fun _ _ => rfl) hR.1 (Nat.le_trans (by simp only [List.map_nil, List.sum_nil]; decide) hR.2) hd (fun H1 locs1 hP hD hS => ?_)
          rw [ws_set (h2 := hcp h k0 i0 k1 i1 sp.toNatClampNeg dp.toNatClampNeg n.toNatClampNeg) hW.1 hp1 (by rw [ent_0 hk1, cpy_hcp]) (fun a b hne => hcp_other hne)] at hP hD
          have K := hy hL VO.nil hlen ls H1 locs1 hl ⟨hP, hD, hS⟩
          simp only [hn] at K
          exact K
        · cases hs
      · rename_i n0 z0 n1 z1 hk0 hk1
        split at hs
        · rename_i hg
          cases hs
          intro hL hst hlen ls H locs hl hw
          obtain ⟨p0, hp0, hws0⟩ := ws_get (dA := dA) (q := q) h hst.tail.tail.tail.tail.hd
          obtain ⟨p1, hp1, hws1⟩ := ws_get (dA := dA) (q := q) h hst.tail.tail.hd
          rw [ent_3 hk0] at hws0
          rw [ent_3 hk1] at hws1
          refine va_copyl (D := (dC, dI)) (cl := vwCl) (ty := .long) hx hb (hml.trans hl.1.symm) hown (hts _ hM) (hts _ cp_nat) (hts _ cp_st) (hts _ cp_in) hK hw.1 hw.2.1 hw.2.2 p0 p1 3 3 hws0 hws1 rfl rfl rfl hg.1.1 hg.1.2.1 hg.1.2.2 hg.2.1 hg.2.2 (fun _ _ => rfl) hR.1 (Nat.le_trans (by simp only [List.map_nil, List.sum_nil]; decide) hR.2) hd (fun H1 locs1 hP hD hS => ?_)
          rw [ws_set (h2 := hcpL h k0 i0 k1 i1 sp.toNatClampNeg dp.toNatClampNeg n.toNatClampNeg) hW.1 hp1 (by rw [ent_3 hk1, cpy_hcpL]) (fun a b hne => hcpL_other hne)] at hP hD
          have K := hy hL VO.nil hlen ls H1 locs1 hl ⟨hP, hD, hS⟩
          simp only [hn] at K
          exact K
        · cases hs
      · cases hs
    · cases hs
  · cases ho
end SN4
