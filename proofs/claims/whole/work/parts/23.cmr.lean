def rmC (d mc ms : Nat) : Room := { frames := d + 1, cells := mc, slots := ms, locals := 40 * d + 60 }
def PmC (dC : Nat → ClassId) (dI : Nat → Nat → Nat) (dA : Nat → ClassId) (B : Nat) (ad : List Nat) (as : List AV) (hp : List CE) : Array Value → State → Prop :=
  va_Pc (as.map (cvv (qa ad))) (fun U => va_P (dC, dI) vwCl (wsC dA ad hp) U.heap ∧ va_K (dC, dI) vwCl (tysOf dA) U ∧ va_D (fun q => B ≤ q) (wsC dA ad hp) ∧ (∀ t ∈ NW, va_Nw (.methodLinkNest t.1 t.2.1 t.2.2.1 t.2.2.2) U) ∧ B ≤ U.heap.size ∧ va_AO "WhyRoom$Row" U ∧ va_AO "WhyRoom$Text" U ∧ va_AO "WhyRoom$State" U)
def QmC (dC : Nat → ClassId) (dI : Nat → Nat → Nat) (dA : Nat → ClassId) (B : Nat) (ad : List Nat) (hp : List CE) : Array Value → State → Outcome → State → Prop :=
  fun _ st oc t => oc = .returned none ∧ (∃ ad1 : List Nat, (ad ++ ad1).length = hp.length ∧ va_P (dC, dI) vwCl (wsC dA (ad ++ ad1) hp) t.heap ∧ va_D (fun q => B ≤ q) (wsC dA (ad ++ ad1) hp) ∧ VH hp) ∧ va_F (fun q => B ≤ q) st t
theorem PmC_blind {dC : Nat → ClassId} {dI : Nat → Nat → Nat} {dA : Nat → ClassId} {B : Nat} {ad : List Nat} {as : List AV} {hp : List CE} : FrameBlind (PmC dC dI dA B ad as hp) := by
  intro a U g mk hq
  obtain ⟨q0, qP, qK, qD, qN, qB, a1, a2, a3⟩ := hq
  exact ⟨q0, qP, va_K.moved (u := U) (U := U.calling g mk a) (Vm.Alike.refl U.vm) qK, qD, fun t ht => va_Nw.same rfl (rfl : U.vm = (U.calling g mk a).vm) (qN t ht), qB, va_AO.moved (u := U) (U := U.calling g mk a) (Vm.Alike.refl U.vm) a1, va_AO.moved (u := U) (U := U.calling g mk a) (Vm.Alike.refl U.vm) a2, va_AO.moved (u := U) (U := U.calling g mk a) (Vm.Alike.refl U.vm) a3⟩
theorem cmI_mono {op a b c : Nat} {v : Int32} {w : Int64} {x y : CC} (h : cmI op a b c v w x = some y) : x.2.2.2.2.1 ≤ y.2.2.2.2.1 ∧ x.2.2.2.2.2 ≤ y.2.2.2.2.2 ∧ x.2.2.2.1.length ≤ y.2.2.2.1.length := by
  obtain ⟨ix, L, st, hp, mc, ms⟩ := x
  unfold cmI at h
  simp only at h
  split at h
  all_goals (try (repeat' split at h))
  all_goals first | (cases h; done) | (cases h; exact ⟨by simp, by simp, by simp⟩) | (cases h; simp) | (cases h; simp; omega)
theorem cmR_mono (P : Nat → List IE) : ∀ (n d : Nat) (C : List IE) (x : CC) (hp : List CE) (mc ms : Nat), cmR P n d C x = some (hp, mc, ms) → x.2.2.2.2.1 ≤ mc ∧ x.2.2.2.2.2 ≤ ms ∧ x.2.2.2.1.length ≤ hp.length := by
  intro n
  induction n with
  | zero => intro d C x hp mc ms h; cases h
  | succ n ih =>
    intro d C x hp mc ms h
    rcases hX : cget C x.1 with ⟨pc, ln, op, ins, a, b, c, e, v, w, ts, ks⟩
    simp only [cmR, hX] at h
    split at h
    · split at h
      · cases h; exact ⟨Nat.le_refl _, Nat.le_refl _, Nat.le_refl _⟩
      · cases h
    · split at h
      · split at h
        · have h1 := ih _ _ _ _ _ _ h
          exact h1
        · cases h
      · cases h
    · split at h
      · cases h
      · split at h
        · split at h
          · split at h
            · rename_i hp1 m1 s1 hr1
              have h1 := ih _ _ _ _ _ _ h
              have h2 := ih _ _ _ _ _ _ hr1
              simp only at h1 h2
              exact ⟨by omega, by omega, by omega⟩
            · cases h
          · cases h
        · cases h
    · split at h
      · rename_i y hy
        have h1 := ih _ _ _ _ _ _ h
        have h2 := cmI_mono hy
        exact ⟨by omega, by omega, by omega⟩
      · cases h
theorem oi_in : Cond.instanceMethod Lib.objectInit ∈ lw_g ∧ Cond.code Lib.objectInit ⟨#[0xb1]⟩ 1 none ∈ lw_g := ⟨lw_gi (by decide +kernel) rfl, lw_gi (by decide +kernel) rfl⟩
theorem okN_at {CT : List MD} {FL ML : FLT} {CL : List (String × Nat × Nat)} {own : String} {y : MethodName} {bytes : ByteArray} {nL : Nat} {ret : Option FieldType} {C : List IE} (h : okN CT FL ML CL (own, y, bytes, nL, ret, C) = true) : (ret = none ∧ y.name = "<init>") ∧ ∀ ix, ix < C.length →
    decode bytes (pcA C ix) = .ok ((cget C ix).2.2.2.1, (cget C ix).2.1) ∧ okC CT FL ML CL own C ix (cget C ix) = true ∧ ((cget C ix).2.2.1 ≠ 21 → (cget C ix).2.2.1 ≠ 53 → pcA C (ix + 1) = pcA C ix + (cget C ix).2.1) ∧ lcO nL (cget C ix) = true := by
  unfold okN at h
  simp only [Bool.and_eq_true, decide_eq_true_eq] at h
  refine ⟨h.1, fun ix hix => ?_⟩
  have h1 := List.all_eq_true.mp h.2 ix (List.mem_range.mpr hix)
  simp only [Bool.and_eq_true, Bool.or_eq_true, decide_eq_true_eq] at h1
  obtain ⟨⟨⟨h1, h2⟩, h3⟩, h4⟩ := h1
  refine ⟨h1, h2, fun a b => ?_, h4⟩
  rcases h3 with (h3 | h3) | h3
  · exact absurd h3 a
  · exact absurd h3 b
  · exact h3
section CMR
variable {l : Launch} {dC : Nat → ClassId} {dI : Nat → Nat → Nat} {dA : Nat → ClassId} {B : Nat}
variable {CT : List MD} {FL ML : FLT} {CL : List (String × Nat × Nat)}
set_option maxHeartbeats 4000000 in
theorem cm_of {md : MD} {d MC MS : Nat} {as : List AV} {ad : List Nat} {hp hp2 : List CE} (hB : mdB md) (hret : md.2.2.2.2.1 = none) (hin : md.2.1.name = "<init>") (h0 : pcA md.2.2.2.2.2 0 = 0) (hv : VA hp.length as) (hVH : VH hp) (hal : ad.length = hp.length) (hl : (lay1 as).length ≤ md.2.2.2.1)
    (hat : ∀ (p : Program) (e0 : Env) (s : State) (m : MethodId) (args : Array Value) (below : List Frame) (meth : Method) (cd : Code), CxC p s m args meth cd dC dI dA B md.1 md.2.2.1 md.2.2.2.1 → AC p l e0 (rmC d MC MS) s m args below meth cd (MQ below (QmC dC dI dA B ad hp2) args s MC MS (fun q => B ≤ q)) dC dI dA B md.2.2.2.1 md.2.2.2.2.2 ad (0, mkL md.2.2.2.1 as, [], hp, 0, 0)) :
    Met l md.2.1 (Cond.code md.2.1 md.2.2.1 md.2.2.2.1 none :: lw_g) (rmC d MC MS) (PmC dC dI dA B ad as hp) (QmC dC dI dA B ad hp2) MC MS (fun q => B ≤ q) := by
  refine va_MetF (cc := md.2.2.1) (maxL := md.2.2.2.1) (ret := none) hB.2.2.1 rfl ?_
  intro p e s m args below meth c s₁ B0 hml hpp
  obtain ⟨rfl, hP, hK, hD, hN, hBs, a1, a2, a3⟩ := hpp
  have hts := atoms_spec (ws := Cond.code md.2.1 md.2.2.1 md.2.2.2.1 none :: lw_g) B0.pre
  have hown : s.vm.findClass md.2.1.cls = some m.cls := findClass_of_methodNamed B0.named
  have hnm : meth.name = "<init>" := ((name_of_methodNamed B0.named B0.method).1).trans hin
  have hX : CxC p s m (as.map (cvv (qa ad))).toArray meth c dC dI dA B md.1 md.2.2.1 md.2.2.2.1 := ⟨⟨B0.exec, B0.bytes, hml, B0.returns, B0.notSynchronized, by rw [hB.2.2.2.2.1]; exact hown, fun w hw => hts w (List.mem_cons_of_mem _ hw), hK, hN⟩, hnm, hBs, a1, a2, a3⟩
  rw [lg_entry_eq]
  have hent := lv_entry (as.map (cvv (qa ad))) (n := md.2.2.2.1) (by rw [lay_len (qa ad) as hv.2]; exact hl)
  have hmk : VA hp.length (mkL md.2.2.2.1 as) := by
    have h1 := mkL_VO (wl := (List.range hp.length).flatMap (fun p => (as.filterMap (fun v => match v with
      | .inr r => some (r.1, p)
      | .inl _ => none)))) (n := md.2.2.2.1) (l := as) ⟨fun r hr => List.mem_flatMap.mpr ⟨r.2, List.mem_range.mpr (hv.1 r hr), List.mem_filterMap.mpr ⟨.inr r, hr, rfl⟩⟩, hv.2⟩
    refine ⟨fun r hr => ?_, h1.2⟩
    obtain ⟨p9, hp9, h9⟩ := List.mem_flatMap.mp (h1.1 r hr)
    obtain ⟨v9, hv9, e9⟩ := List.mem_filterMap.mp h9
    cases v9 with
    | inl z => cases e9
    | inr z => cases e9; exact List.mem_range.mp hp9
  have K := hat p e s m (as.map (cvv (qa ad))).toArray below meth c hX hmk VA.nil hVH (mkL_len hl) [] _ s.heap [] (by simpa using hal) (by rw [List.append_nil]; exact lv_less hent (lay_lvs (qa ad) _ as 0 hv.2)) (by rw [List.append_nil]; exact ⟨hP, hD, va_S.rf⟩)
  simp only [h0] at K
  exact K
set_option maxHeartbeats 8000000 in
set_option maxRecDepth 100000 in
theorem cm_at (hPK : POKC CT FL ML CL) : ∀ (n d : Nat) (md : MD) (x : CC) (hp2 : List CE) (MC MS : Nat), md ∈ CT → cmR (prg CT) n d md.2.2.2.2.2 x = some (hp2, MC, MS) →
    ∀ (ad0 : List Nat) (p : Program) (e0 : Env) (s : State) (m : MethodId) (args : Array Value) (below : List Frame) (meth : Method) (cd : Code), CxC p s m args meth cd dC dI dA B md.1 md.2.2.1 md.2.2.2.1 →
    AC p l e0 (rmC d MC MS) s m args below meth cd (MQ below (QmC dC dI dA B ad0 hp2) args s MC MS (fun q => B ≤ q)) dC dI dA B md.2.2.2.1 md.2.2.2.2.2 ad0 x := by
  obtain ⟨hFL, hML, hCL, hCT, h00⟩ := hPK
  intro n
  induction n with
  | zero => intro d md x hp2 MC MS _ hr; cases hr
  | succ n ih =>
    intro d md x hp2 MC MS hmd hr ad0 p e0 s m args below meth cd XC
    obtain ⟨own, ynm, bytes, nL, ret, C⟩ := md
    simp only at XC hr ⊢
    obtain ⟨⟨hret, hyn⟩, hokA⟩ := okN_at (hCT _ hmd)
    by_cases hix : C.length ≤ x.1
    · exfalso
      simp only [cmR] at hr
      rw [cget_out C x.1 hix] at hr
      simp only [ie0] at hr
      have : cmI 99 0 0 0 0 0 x = none := rfl
      rw [this] at hr
      cases hr
    obtain ⟨hd, ho, hnx, hlc⟩ := hokA x.1 (Nat.lt_of_not_le hix)
    clear hix
    obtain ⟨ix, L, st, hp, mc, ms⟩ := x
    rcases hX : cget C ix with ⟨pc, ln, op, ins, a, b, c, e, v, w, ts, ks⟩
    have hpc : pc = pcA C ix := by show pc = (cget C ix).1; rw [hX]
    subst hpc
    simp only [cmR] at hr
    simp only [hX] at hr hd ho hnx hlc
    have hXC := XC
    obtain ⟨⟨hx, hb, hml, hrr, hlk, hown, hts, hK, hNW⟩, hin, hBs, a1, a2, a3⟩ := XC
    split at hr
    · -- the end
      split at hr
      · cases hr
        simp only [okC, decide_eq_true_eq] at ho
        obtain ⟨rfl, rfl⟩ := ho
        intro hL hst hVH hlen ad1 ls H locs hal hl hw
        exact W.vret hx hb hrr (fun t ht hWm => ⟨rfl, ⟨ad1, hal, by rw [ht]; exact hw.1, hw.2.1, hVH⟩, hw.2.2.F ht⟩) hw.2.2.2.2 hd hlk
      · cases hr
    · -- Object's constructor
      have hn := hnx (by decide) (by decide)
      split at hr
      · rename_i z r
        split at hr
        · rename_i hble
          simp only [okC] at ho
          split at ho
          · rename_i idx
            simp only [Bool.and_eq_true, decide_eq_true_eq] at ho
            obtain ⟨rfl, hMe⟩ := ho
            have hM : Cond.methodLink own idx Lib.objectInit ∈ lw_g := hML _ (List.mem_of_getElem? hMe)
            intro hL hst hVH hlen ad1 ls H locs hal hl hw
            have K := ih d (own, ynm, bytes, nL, ret, C) _ hp2 MC MS hmd hr ad0 p e0 s m args below meth cd hXC hL hst.tail hVH hlen ad1 ls H locs hal hl hw
            refine W.objInit hx hb hown (hts _ hM) (hts _ oi_in.1) (hts _ oi_in.2) rfl (hl.1.trans hml.symm) (a := (ad0 ++ ad1).getD z.2 0) (rest := r.map (cvv (qa (ad0 ++ ad1)))) rfl hd (by show 1 ≤ d + 1; omega) ?_ ?_
            · rw [wsm_sum]
              have h8 : wsm r ≤ 8 := Nat.ble_eq.mp hble
              show 2 * 0 + wsm r + 12 ≤ 40 * d + 60
              omega
            · simp only [hn] at K
              exact K
          · cases ho
        · cases hr
      · cases hr
    · -- a constructor of the program
      have hn := hnx (by decide) (by decide)
      split at hr
      · cases hr
      · rename_i d'
        split at hr
        · rename_i as rest hpop
          split at hr
          · rename_i hble
            simp only [Bool.and_eq_true, Nat.ble_eq] at hble
            split at hr
            · rename_i hp1 m1 s1 hrun1
              simp only [okC] at ho
              split at ho
              · rename_i idx
                simp only [Bool.and_eq_true, Bool.or_eq_true, decide_eq_true_eq] at ho
                obtain ⟨⟨rfl, hMe⟩, hmt⟩ := ho
                split at hmt
                · rename_i md1 hmd1
                  simp only [Bool.and_eq_true, decide_eq_true_eq] at hmt
                  obtain ⟨hc, hpar⟩ := hmt
                  subst hc
                  have hmm1 : md1 ∈ CT := List.mem_of_getElem? hmd1
                  have hprg : prg CT a = md1.2.2.2.2.2 := by unfold prg; rw [hmd1]
                  rw [hprg] at hrun1
                  obtain ⟨own1, ynm1, bytes1, nL1, ret1, C1⟩ := md1
                  obtain ⟨⟨hret1, hyn1⟩, -⟩ := okN_at (hCT _ hmm1)
                  subst hret1
                  obtain ⟨hst0, hlen0⟩ := pop_spec _ _ _ _ _ hpop
                  simp only [List.reverse_nil, List.nil_append, List.length_nil, Nat.zero_add] at hst0 hlen0
                  have ihn := ih (d' + 1) (own, ynm, bytes, nL, ret, C) _ hp2 MC MS hmd hr ad0 p e0 s m args below meth cd hXC
                  have hmo := cmR_mono (prg CT) n (d' + 1) _ _ _ _ _ hr
                  have hmo1 := cmR_mono (prg CT) n d' _ _ _ _ _ hrun1
                  simp only at hmo hmo1
                  intro hL hst hVH hlen ad1 ls H locs hal hl hw
                  simp only at hL hst hVH hlen hal hl hw
                  have hVa : VA hp.length as := ⟨fun r hr => hst.1 r (by rw [hst0]; exact List.mem_append_left _ (List.mem_reverse.mpr hr)), fun z hz => hst.2 z (by rw [hst0]; exact List.mem_append_left _ (List.mem_reverse.mpr hz))⟩
                  have hVr : VA hp.length rest := ⟨fun r hr => hst.1 r (by rw [hst0]; exact List.mem_append_right _ hr), fun z hz => hst.2 z (by rw [hst0]; exact List.mem_append_right _ hz)⟩
                  cases as with
                  | nil => simp at hble
                  | cons a0 as2 =>
                  cases a0 with
                  | inl z => simp at hble
                  | inr z =>
                  have key : mdB (own1, ynm1, bytes1, nL1, none, C1) ∧ (Cond.methodLink own idx ynm1 ∈ lw_g ∨ (∃ host, (own, idx, ynm1, host) ∈ NW)) ∧ Cond.instanceMethod ynm1 ∈ lw_g := by
                    rcases hMe with hMe | hMe
                    · obtain ⟨md2, e2, e3, e4, e5⟩ := hML _ (List.mem_of_getElem? hMe)
                      have : md2 = (own1, ynm1, bytes1, nL1, none, C1) := Option.some.inj (e2.symm.trans hmd1)
                      subst this
                      exact ⟨e3, Or.inl e4, e5⟩
                    · obtain ⟨md2, e2, e3, e4, e5⟩ := hML _ (List.mem_of_getElem? hMe)
                      have : md2 = (own1, ynm1, bytes1, nL1, none, C1) := Option.some.inj (e2.symm.trans hmd1)
                      subst this
                      exact ⟨e3, Or.inr e4, e5⟩
                  obtain ⟨hB, hlink, hinst⟩ := key
                  have hM := cm_of (l := l) (dC := dC) (dI := dI) (dA := dA) (B := B) (md := (own1, ynm1, bytes1, nL1, none, C1)) (d := d') (MC := m1) (MS := s1) (as := .inr z :: as2) (ad := ad0 ++ ad1) (hp := hp) (hp2 := hp1) hB rfl hyn1 (h00 _ hmm1) hVa hVH hal hble.1.2
                    (fun p e0 s m args below meth cd X => ih d' (own1, ynm1, bytes1, nL1, none, C1) _ hp1 m1 s1 hmm1 hrun1 (ad0 ++ ad1) p e0 s m args below meth cd X)
                  have hpre : PreS s H (PmC dC dI dA B (ad0 ++ ad1) (.inr z :: as2) hp) (.ref (qa (ad0 ++ ad1) z.1 z.2) :: as2.map (cvv (qa (ad0 ++ ad1)))) := ⟨PmC_blind, fun U hU hWm => ⟨rfl, by rw [hU]; exact hw.1, va_K.moved hWm.alike hK, hw.2.1, fun t ht => va_Nw.warmM hWm (hNW t ht), by rw [hU]; exact Nat.le_trans hBs hw.2.2.1, va_AO.moved hWm.alike a1, va_AO.moved hWm.alike a2, va_AO.moved hWm.alike a3⟩⟩
                  have hstk : (F0 m (pcA C ix) ls (st.map (cvv (qa (ad0 ++ ad1))))).stack = (as2.map (cvv (qa (ad0 ++ ad1)))).reverse ++ .ref (qa (ad0 ++ ad1) z.1 z.2) :: rest.map (cvv (qa (ad0 ++ ad1))) := by
                    show st.map (cvv (qa (ad0 ++ ad1))) = _
                    rw [hst0]
                    simp [cvv]
                  have hpar2 : (parseMethodDescriptor ynm1.desc).map (fun d => d.parameters.length) = some as2.length := by
                    simp only at hpar
                    cases hpd : parseMethodDescriptor ynm1.desc with
                    | none => rw [hpd] at hpar; cases hpar
                    | some sg =>
                      rw [hpd] at hpar
                      have h8 : sg.parameters.length + 1 = b := Option.some.inj hpar
                      simp only [List.length_cons] at hlen0
                      have h9 : sg.parameters.length = as2.length := by omega
                      show some sg.parameters.length = some _
                      rw [h9]
                  have hreg : (rmC d' m1 s1).frames + 1 ≤ (rmC (d' + 1) MC MS).frames ∧ 8 + (nL1 + 11) + (rmC d' m1 s1).locals ≤ (rmC (d' + 1) MC MS).locals := ⟨by show d' + 1 + 1 ≤ d' + 1 + 1; omega, by
                    have := hB.2.2.2.2.2
                    simp only at this
                    show 8 + (nL1 + 11) + (40 * d' + 60) ≤ 40 * (d' + 1) + 60
                    omega⟩
                  have hrun : va_Run p l e0 (rmC (d' + 1) MC MS) s m args below meth cd H locs mc ms m1 s1 (F0 m (pcA C ix) ls (st.map (cvv (qa (ad0 ++ ad1))))) (rest.map (cvv (qa (ad0 ++ ad1)))) (QmC dC dI dA B (ad0 ++ ad1) hp1 (Value.ref (qa (ad0 ++ ad1) z.1 z.2) :: as2.map (cvv (qa (ad0 ++ ad1)))).toArray) (fun q => B ≤ q) := by
                    rcases hlink with e1 | ⟨host, e1⟩
                    · exact va_runI (n := as2.length) ⟨hx, hb, hml, hown, hts⟩ hM (cwI as2.length hts (good_all hB.1) rfl rfl rfl (hts _ hB.2.1) (hts _ e1) (hts _ hinst) hyn1 ⟨hB.2.2.2.1.1, hB.2.2.2.1.2, hpar2⟩ hreg) hpre rfl (by simp) hl.1 hstk (by rw [wsm_sum]; simpa using hble.1.1) hd ⟨by show mc + m1 ≤ MC; omega, by show ms + s1 ≤ MS; omega⟩
                    · exact va_runIN (n := as2.length) ⟨hx, hb, hml, hown, hts⟩ hM ⟨va_cnB as2.length hts (good_all hB.1) rfl rfl rfl (hNW _ e1) (hts _ hB.2.1) ⟨hB.2.2.2.1.1, hB.2.2.2.1.2, hpar2⟩ hreg, hyn1, hts _ hinst⟩ hpre rfl (by simp) hl.1 hstk (by rw [wsm_sum]; simpa using hble.1.1) hd ⟨by show mc + m1 ≤ MC; omega, by show ms + s1 ≤ MS; omega⟩
                  refine va_callO (r1 := none) (B := fun t => ∃ ad2 : List Nat, ((ad0 ++ ad1) ++ ad2).length = hp1.length ∧ va_P (dC, dI) vwCl (wsC dA ((ad0 ++ ad1) ++ ad2) hp1) t.heap ∧ va_D (fun q => B ≤ q) (wsC dA ((ad0 ++ ad1) ++ ad2) hp1) ∧ VH hp1) hrun hw.2.2 (fun _ h => h) (fun t H1 locs1 ht hvm hB1 hS1 => ?_)
                  obtain ⟨ad2, f1, f2, f3, hVH1⟩ := hB1
                  rw [ht] at f2
                  rw [List.append_assoc] at f1 f2 f3
                  have K := ihn (hL.mono hmo1.2.2) (hVr.mono hmo1.2.2) hVH1 hlen (ad1 ++ ad2) ls H1 locs1 f1 (by rw [← List.append_assoc, lvs_more 0 (by rw [hal]; exact hL)]; exact hl) ⟨f2, f3, hS1⟩
                  simp only [hn] at K
                  rw [← List.append_assoc, map_more (by rw [hal]; exact hVr)] at K
                  exact K
                · cases hmt
              · cases ho
            · cases hr
          · cases hr
        · cases hr
    · -- a plain row
      split at hr
      · rename_i y hy
        have hmo := cmR_mono (prg CT) n d _ _ _ _ _ hr
        have ihn := ih d (own, ynm, bytes, nL, ret, C) _ hp2 MC MS hmd hr ad0 p e0 s m args below meth cd hXC
        have hR1 : ∀ {z : Nat}, z ≤ y.2.2.2.2.1 → z ≤ (rmC d MC MS).cells := fun h => Nat.le_trans h hmo.1
        have hR2 : ∀ {z : Nat}, z ≤ y.2.2.2.2.2 → z ≤ (rmC d MC MS).slots := fun h => Nat.le_trans h hmo.2.1
        match op, hd, ho, hlc, hy, hnx with
        | 0, hd, ho, hlc, hy, hnx => exact cs_0 hXC hd ho (hnx (by decide) (by decide)) hy ihn
        | 1, hd, ho, hlc, hy, hnx => exact cs_1 hXC hd ho (hnx (by decide) (by decide)) hy ihn
        | 2, hd, ho, hlc, hy, hnx => exact cs_2 hXC hd ho (hnx (by decide) (by decide)) hy ihn
        | 4, hd, ho, hlc, hy, hnx => exact cs_4 hXC hd ho (hnx (by decide) (by decide)) hy ihn
        | 5, hd, ho, hlc, hy, hnx => exact cs_5 hXC (by simpa [lcO] using hlc) hd ho (hnx (by decide) (by decide)) hy ihn
        | 8, hd, ho, hlc, hy, hnx => exact cs_8 hXC (by simpa [lcO] using hlc) hd ho (hnx (by decide) (by decide)) hy ihn
        | 19, hd, ho, hlc, hy, hnx => exact cs_19 hXC hd ho (hnx (by decide) (by decide)) hy ihn
        | 21, hd, ho, hlc, hy, hnx => exact cs_21 hXC hd ho hy ihn
        | 22, hd, ho, hlc, hy, hnx => exact cs_22 hXC hFL hd ho (hnx (by decide) (by decide)) hy ihn
        | 23, hd, ho, hlc, hy, hnx => exact cs_23 hXC hFL hd ho (hnx (by decide) (by decide)) hy ihn
        | 28, hd, ho, hlc, hy, hnx => exact cs_28 hXC hd ho (hnx (by decide) (by decide)) hy ihn
        | 32, hd, ho, hlc, hy, hnx => exact cs_32 hXC hd ho (hnx (by decide) (by decide)) hy ihn
        | 60, hd, ho, hlc, hy, hnx => exact cs_60 hXC hCL (by have h9 := hy; cases h9; exact ⟨hR1 (Nat.le_refl _), hR2 (Nat.le_refl _)⟩) hd ho (hnx (by decide) (by decide)) hy ihn
        | 61, hd, ho, hlc, hy, hnx =>
          have hRc9 : ∀ n : Int32, (∃ r, st = .inl (.int n) :: r) → mc + 1 ≤ (rmC d MC MS).cells ∧ ms + n.toNatClampNeg ≤ (rmC d MC MS).slots := by
            intro n9 hn9
            obtain ⟨r9, hr9⟩ := hn9
            rw [hr9] at hy
            simp only [cmI] at hy
            split at hy
            · split at hy
              · cases hy; exact ⟨hR1 (Nat.le_refl _), hR2 (Nat.le_refl _)⟩
              · cases hy; exact ⟨hR1 (Nat.le_refl _), hR2 (Nat.le_refl _)⟩
            · cases hy
          exact cs_61 hXC hRc9 hd ho (hnx (by decide) (by decide)) hy ihn
        | 62, hd, ho, hlc, hy, hnx =>
          have hRc9 : ∀ n : Int32, (∃ r, st = .inl (.int n) :: r) → mc + 1 ≤ (rmC d MC MS).cells ∧ ms + n.toNatClampNeg ≤ (rmC d MC MS).slots := by
            intro n9 hn9
            obtain ⟨r9, hr9⟩ := hn9
            rw [hr9] at hy
            simp only [cmI] at hy
            split at hy
            · cases hy; exact ⟨hR1 (Nat.le_refl _), hR2 (Nat.le_refl _)⟩
            · cases hy
          exact cs_62 hXC hCL hRc9 hd ho (hnx (by decide) (by decide)) hy ihn
        | 63, hd, ho, hlc, hy, hnx => exact cs_63 hXC hd ho (hnx (by decide) (by decide)) hy ihn
        | 3, hd, ho, hlc, hy, hnx => exact absurd (show (none : Option CC) = some y from hy) (by simp)
        | 6, hd, ho, hlc, hy, hnx => exact absurd (show (none : Option CC) = some y from hy) (by simp)
        | 7, hd, ho, hlc, hy, hnx => exact absurd (show (none : Option CC) = some y from hy) (by simp)
        | 9, hd, ho, hlc, hy, hnx => exact absurd (show (none : Option CC) = some y from hy) (by simp)
        | 10, hd, ho, hlc, hy, hnx => exact absurd (show (none : Option CC) = some y from hy) (by simp)
        | 11, hd, ho, hlc, hy, hnx => exact absurd (show (none : Option CC) = some y from hy) (by simp)
        | 12, hd, ho, hlc, hy, hnx => exact absurd (show (none : Option CC) = some y from hy) (by simp)
        | 13, hd, ho, hlc, hy, hnx => exact absurd (show (none : Option CC) = some y from hy) (by simp)
        | 14, hd, ho, hlc, hy, hnx => exact absurd (show (none : Option CC) = some y from hy) (by simp)
        | 15, hd, ho, hlc, hy, hnx => exact absurd (show (none : Option CC) = some y from hy) (by simp)
        | 16, hd, ho, hlc, hy, hnx => exact absurd (show (none : Option CC) = some y from hy) (by simp)
        | 17, hd, ho, hlc, hy, hnx => exact absurd (show (none : Option CC) = some y from hy) (by simp)
        | 18, hd, ho, hlc, hy, hnx => exact absurd (show (none : Option CC) = some y from hy) (by simp)
        | 20, hd, ho, hlc, hy, hnx => exact absurd (show (none : Option CC) = some y from hy) (by simp)
        | 24, hd, ho, hlc, hy, hnx => exact absurd (show (none : Option CC) = some y from hy) (by simp)
        | 25, hd, ho, hlc, hy, hnx => exact absurd (show (none : Option CC) = some y from hy) (by simp)
        | 26, hd, ho, hlc, hy, hnx => exact absurd (show (none : Option CC) = some y from hy) (by simp)
        | 27, hd, ho, hlc, hy, hnx => exact absurd (show (none : Option CC) = some y from hy) (by simp)
        | 29, hd, ho, hlc, hy, hnx => exact absurd (show (none : Option CC) = some y from hy) (by simp)
        | 30, hd, ho, hlc, hy, hnx => exact absurd (show (none : Option CC) = some y from hy) (by simp)
        | 31, hd, ho, hlc, hy, hnx => exact absurd (show (none : Option CC) = some y from hy) (by simp)
        | 33, hd, ho, hlc, hy, hnx => exact absurd (show (none : Option CC) = some y from hy) (by simp)
        | 34, hd, ho, hlc, hy, hnx => exact absurd (show (none : Option CC) = some y from hy) (by simp)
        | 35, hd, ho, hlc, hy, hnx => exact absurd (show (none : Option CC) = some y from hy) (by simp)
        | 36, hd, ho, hlc, hy, hnx => exact absurd (show (none : Option CC) = some y from hy) (by simp)
        | 37, hd, ho, hlc, hy, hnx => exact absurd (show (none : Option CC) = some y from hy) (by simp)
        | 38, hd, ho, hlc, hy, hnx => exact absurd (show (none : Option CC) = some y from hy) (by simp)
        | 39, hd, ho, hlc, hy, hnx => exact absurd (show (none : Option CC) = some y from hy) (by simp)
        | 40, hd, ho, hlc, hy, hnx => exact absurd (show (none : Option CC) = some y from hy) (by simp)
        | 41, hd, ho, hlc, hy, hnx => exact absurd (show (none : Option CC) = some y from hy) (by simp)
        | 42, hd, ho, hlc, hy, hnx => exact absurd (show (none : Option CC) = some y from hy) (by simp)
        | 43, hd, ho, hlc, hy, hnx => exact absurd (show (none : Option CC) = some y from hy) (by simp)
        | 44, hd, ho, hlc, hy, hnx => exact absurd (show (none : Option CC) = some y from hy) (by simp)
        | 45, hd, ho, hlc, hy, hnx => exact absurd (show (none : Option CC) = some y from hy) (by simp)
        | 46, hd, ho, hlc, hy, hnx => exact absurd (show (none : Option CC) = some y from hy) (by simp)
        | 47, hd, ho, hlc, hy, hnx => exact absurd (show (none : Option CC) = some y from hy) (by simp)
        | 48, hd, ho, hlc, hy, hnx => exact absurd (show (none : Option CC) = some y from hy) (by simp)
        | 49, hd, ho, hlc, hy, hnx => exact absurd (show (none : Option CC) = some y from hy) (by simp)
        | 50, hd, ho, hlc, hy, hnx => exact absurd (show (none : Option CC) = some y from hy) (by simp)
        | 51, hd, ho, hlc, hy, hnx => exact absurd (show (none : Option CC) = some y from hy) (by simp)
        | 52, hd, ho, hlc, hy, hnx => exact absurd (show (none : Option CC) = some y from hy) (by simp)
        | 53, hd, ho, hlc, hy, hnx => exact absurd (show (none : Option CC) = some y from hy) (by simp)
        | 54, hd, ho, hlc, hy, hnx => exact absurd (show (none : Option CC) = some y from hy) (by simp)
        | 55, hd, ho, hlc, hy, hnx => exact absurd (show (none : Option CC) = some y from hy) (by simp)
        | 56, hd, ho, hlc, hy, hnx => exact absurd (show (none : Option CC) = some y from hy) (by simp)
        | 57, hd, ho, hlc, hy, hnx => exact absurd (show (none : Option CC) = some y from hy) (by simp)
        | 58, hd, ho, hlc, hy, hnx => exact absurd (show (none : Option CC) = some y from hy) (by simp)
        | 59, hd, ho, hlc, hy, hnx => exact absurd (show (none : Option CC) = some y from hy) (by simp)
        | n9 + 64, hd, ho, hlc, hy, hnx => exact absurd (show (none : Option CC) = some y from hy) (by simp)
      · cases hr
end CMR
