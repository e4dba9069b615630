/-- what a program's tables must be -/
def POK (MT : List MD) (FL ML : FLT) (CI : CIT) (CJ : CJT) : Prop := (∀ t ∈ FL, FLok t) ∧ (∀ t ∈ ML, MLok MT t) ∧ (∀ t ∈ CI, Cond.constant t.1 t.2.1 t.2.2 ∈ lw_g) ∧ (∀ t ∈ CJ, Cond.constantLong t.1 t.2.1 t.2.2 ∈ lw_g) ∧ (∀ md ∈ MT, okM MT FL ML CI CJ md = true) ∧ ∀ md ∈ MT, pcA md.2.2.2.2.2 0 = 0
section RUN3
variable {l : Launch} {dC : Nat → ClassId} {dI : Nat → Nat → Nat} {dA : Nat → ClassId} {q : Nat → Nat → Nat} {wl : List (Nat × Nat)} {A : Nat → Prop}
variable {MT : List MD} {FL ML : FLT} {CI : CIT} {CJ : CJT}
theorem reg_ok (d : Nat) : 1 ≤ (rmD d).frames ∧ 60 ≤ (rmD d).locals := ⟨by show 1 ≤ d + 1; omega, by show 60 ≤ 40 * d + 60; omega⟩
theorem reg_call (d n : Nat) (hn : n ≤ 21) : (rmD d).frames + 1 ≤ (rmD (d + 1)).frames ∧ 8 + (n + 11) + (rmD d).locals ≤ (rmD (d + 1)).locals := ⟨by show d + 1 + 1 ≤ d + 1 + 1; omega, by show 8 + (n + 11) + (40 * d + 60) ≤ 40 * (d + 1) + 60; omega⟩
set_option maxHeartbeats 8000000 in
set_option maxRecDepth 100000 in
theorem run_at (hP : POK MT FL ML CI CJ) (hW : WOK wl) : ∀ (n d : Nat) (md : MD) (x : Cf) (r : Option Value) (h2 : AH), md ∈ MT → run (prg MT) n d md.2.2.2.2.2 x = some (r, h2) →
    ∀ (p : Program) (e0 : Env) (s : State) (m : MethodId) (args : Array Value) (below : List Frame) (meth : Method) (cd : Code), Cx p s m args meth cd dC dI dA md.1 md.2.2.1 md.2.2.2.1 md.2.2.2.2.1 →
    At_ p l e0 (rmD d) s m args below meth cd (MQ below (Qm dC dI dA q wl A r h2) args s 0 0 A) dC dI dA q wl A md.2.2.2.1 md.2.2.2.2.2 x := by
  obtain ⟨hFL, hML, hCI, hCJ, hMT, h00⟩ := hP
  intro n
  induction n with
  | zero => intro d md x r h2 _ hr; cases hr
  | succ n ih =>
    intro d md x r h2 hmd hr p e0 s m args below meth cd X
    obtain ⟨own, ynm, bytes, nL, ret, C⟩ := md
    simp only at X hr ⊢
    have hokM := hMT _ hmd
    by_cases hix : C.length ≤ x.1
    · exfalso
      unfold run at hr
      rw [cget_out C x.1 (by omega)] at hr
      simp only [ie0] at hr
      have : step C x = none := by
        unfold step
        rw [cget_out C x.1 (by omega)]
        rfl
      rw [this] at hr
      cases hr
    have hix := Nat.lt_of_not_le hix
    obtain ⟨hd, ho, hnx, hrt, hlc⟩ := okM_at hokM hix
    unfold run at hr
    have hstep : step C x = (match cget C x.1 with
      | (_, _, op, _, a, b, c, e, v, w, ts, ks) => stepI op a b c e v w ts x.1 (clr ks x.2.1) x.2.2.1 x.2.2.2) := rfl
    rcases hX : cget C x.1 with ⟨pc, ln, op, ins, a, b, c, e, v, w, ts, ks⟩
    have hpc : pc = pcA C x.1 := by show pc = (cget C x.1).1; rw [hX]
    simp only [hX] at hr hd ho hnx hrt hlc hstep
    have hX0 := X
    obtain ⟨hx, hb, hml, hrr, hlk, hown, hts, hK, hNW⟩ := X
    split at hr
    · -- a static call
      split at hr
      · cases hr
      · rename_i d'
        split at hr
        · rename_i as rest hpop
          split at hr
          · rename_i hble
            simp only [Bool.and_eq_true, Nat.ble_eq] at hble
            split at hr
            · rename_i r1 h1 hrun1
              have hn : pcA C (x.1 + 1) = pcA C x.1 + ln := by
                simp only [nxO, Bool.or_eq_true, decide_eq_true_eq] at hnx
                rcases hnx with ((h9 | h9) | h9) | h9
                · omega
                · omega
                · omega
                · rw [h9, hpc]
              simp only [okO] at ho
              split at ho
              · rename_i idx
                simp only [Bool.and_eq_true, Bool.or_eq_true, decide_eq_true_eq] at ho
                obtain ⟨⟨rfl, hMe⟩, hmt⟩ := ho
                split at hmt
                · rename_i md1 hmd1
                  simp only [Bool.and_eq_true, decide_eq_true_eq] at hmt
                  obtain ⟨hc, hpar⟩ := hmt
                  subst hc
                  have hmm1 : md1 ∈ MT := List.mem_of_getElem? hmd1
                  have hprg : prg MT a = md1.2.2.2.2.2 := by unfold prg; rw [hmd1]
                  rw [hprg] at hrun1
                  obtain ⟨hst0, hlen0⟩ := pop_spec _ _ _ _ _ hpop
                  simp only [List.reverse_nil, List.nil_append, List.length_nil, Nat.zero_add] at hst0 hlen0
                  have ihn := ih (d' + 1) (own, ynm, bytes, nL, ret, C) _ r h2 hmd hr p e0 s m args below meth cd hX0
                  have hrok := run_rOK (prg MT) n d' _ _ r1 h1 hrun1
                  intro hL hst hlen ls H locs hl hw
                  have hVO := VO.app (by rw [← hst0]; exact hst)
                  have hVa := hVO.1.rev
                  have key : mdB md1 ∧ ((Cond.methodLink own idx md1.2.1 ∈ lw_g ∧ Cond.static md1.2.1 ∈ lw_g) ∨ ((∃ host, (own, idx, md1.2.1, host) ∈ NW) ∧ Cond.static md1.2.1 ∈ lw_g)) := by
                    rcases hMe with hMe | hMe
                    · obtain ⟨md2, e2, e3, e4, e5⟩ := hML _ (List.mem_of_getElem? hMe)
                      have : md2 = md1 := Option.some.inj (e2.symm.trans hmd1)
                      subst this
                      exact ⟨e3, Or.inl ⟨e4, e5⟩⟩
                    · obtain ⟨md2, e2, e3, e4, e5⟩ := hML _ (List.mem_of_getElem? hMe)
                      have : md2 = md1 := Option.some.inj (e2.symm.trans hmd1)
                      subst this
                      exact ⟨e3, Or.inr ⟨e4, e5⟩⟩
                  obtain ⟨hB, hlink⟩ := key
                  have hM := met_of (l := l) (dC := dC) (dI := dI) (dA := dA) (q := q) (wl := wl) (A := A) (md := md1) (d := d') (as := as) (h := x.2.2.2) (h2 := h1) (r := r1) hB (h00 _ hmm1) hVa hble.2
                    (fun p e0 s m args below meth cd X => ih d' md1 _ r1 h1 hmm1 hrun1 p e0 s m args below meth cd X)
                  have hpre : PreS s H (Pm dC dI dA q wl A as x.2.2.2) (as.map (cvv q)) := ⟨Pm_blind, fun U hU hWm => ⟨rfl, by rw [hU]; exact hw.1, va_K.moved hWm.alike hK, hw.2.1, fun t ht => va_Nw.warmM hWm (hNW t ht)⟩⟩
                  have hstk : (F0 m (pcA C x.1) ls (x.2.2.1.map (cvv q))).stack = (as.map (cvv q)).reverse ++ rest.map (cvv q) := by
                    show x.2.2.1.map (cvv q) = _
                    rw [hst0, List.map_append, List.map_reverse]
                  have hrun : va_Run p l e0 (rmD (d' + 1)) s m args below meth cd H locs 0 0 0 0 (F0 m (pcA C x.1) ls (x.2.2.1.map (cvv q))) (rest.map (cvv q)) (Qm dC dI dA q wl A r1 h1 (as.map (cvv q)).toArray) A := by
                    rcases hlink with ⟨e1, e2⟩ | ⟨⟨host, e1⟩, e2⟩
                    · exact va_runS (n := b) ⟨hx, hb, hml, hown, hts⟩ hM ⟨callB_of b hts (good_all hB.1) rfl rfl rfl (hts _ hB.2.1) (hts _ e1) ⟨hB.2.2.2.1.1, hB.2.2.2.1.2, hpar⟩ (reg_call d' _ hB.2.2.2.2.2), hts _ e2⟩ hpre rfl (by simpa using hlen0) hl.1 hstk (by rw [wsm_sum]; simpa using hble.1) hd ⟨Nat.le_refl _, Nat.le_refl _⟩
                    · exact va_runSN (n := b) ⟨hx, hb, hml, hown, hts⟩ hM ⟨va_cnB b hts (good_all hB.1) rfl rfl rfl (hNW _ e1) (hts _ hB.2.1) ⟨hB.2.2.2.1.1, hB.2.2.2.1.2, hpar⟩ (reg_call d' _ hB.2.2.2.2.2), hts _ e2, trivial⟩ hpre rfl (by simpa using hlen0) hl.1 hstk (by rw [wsm_sum]; simpa using hble.1) hd ⟨Nat.le_refl _, Nat.le_refl _⟩
                  refine va_callO (r1 := r1) (B := fun t => va_P (dC, dI) vwCl (wsOf dA q wl h1) t.heap) hrun hw.2.2 (fun _ h => h) (fun t H1 locs1 ht hvm hB1 hS1 => ?_)
                  rw [ht] at hB1
                  have K := ihn (VO.clr ks hL) (rst_VO hrok hVO.2) (by rw [← hlen]; exact clr_len ks _) ls H1 locs1 (lv_clr ks hl) ⟨hB1, ws_D hw.2.1, hS1⟩
                  simp only [hn, rst_map] at K
                  exact K
                · cases hmt
              · cases ho
            · cases hr
          · cases hr
        · cases hr
    · -- a call on an object
      split at hr
      · cases hr
      · rename_i d'
        split at hr
        · rename_i as rest hpop
          split at hr
          · rename_i hble
            simp only [Bool.and_eq_true, Nat.ble_eq] at hble
            split at hr
            · rename_i r1 h1 hrun1
              have hn : pcA C (x.1 + 1) = pcA C x.1 + ln := by
                simp only [nxO, Bool.or_eq_true, decide_eq_true_eq] at hnx
                rcases hnx with ((h9 | h9) | h9) | h9
                · omega
                · omega
                · omega
                · rw [h9, hpc]
              simp only [okO] at ho
              split at ho
              · rename_i idx
                simp only [Bool.and_eq_true, decide_eq_true_eq] at ho
                obtain ⟨⟨rfl, hMe⟩, hmt⟩ := ho
                split at hmt
                · rename_i md1 hmd1
                  simp only [Bool.and_eq_true, decide_eq_true_eq] at hmt
                  obtain ⟨⟨hc, hpar⟩, htsc⟩ := hmt
                  subst hc
                  have hmm1 : md1 ∈ MT := List.mem_of_getElem? hmd1
                  have hprg : prg MT a = md1.2.2.2.2.2 := by unfold prg; rw [hmd1]
                  rw [hprg] at hrun1
                  obtain ⟨hst0, hlen0⟩ := pop_spec _ _ _ _ _ hpop
                  simp only [List.reverse_nil, List.nil_append, List.length_nil, Nat.zero_add] at hst0 hlen0
                  have ihn := ih (d' + 1) (own, ynm, bytes, nL, ret, C) _ r h2 hmd hr p e0 s m args below meth cd hX0
                  have hrok := run_rOK (prg MT) n d' _ _ r1 h1 hrun1
                  intro hL hst hlen ls H locs hl hw
                  have hVO := VO.app (by rw [← hst0]; exact hst)
                  have hVa := hVO.1.rev
                  obtain ⟨md2, e2, hB, e4, e5, e6⟩ := hML _ (List.mem_of_getElem? hMe)
                  have : md2 = md1 := Option.some.inj (e2.symm.trans hmd1)
                  subst this
                  cases ts with
                  | nil => cases htsc
                  | cons t9 ts =>
                  simp only [decide_eq_true_eq, tsC] at htsc hble
                  have hcl := hble.2
                  unfold isCl at hcl
                  split at hcl
                  · rename_i k i as2
                    split at hcl
                    · rename_i cj fs hk
                      have hcj := Nat.eq_of_beq_eq_true hcl
                      subst hcj
                      cases hvc : vwCl[t9.2]? with
                      | none => rw [hvc] at htsc; cases htsc
                      | some rc =>
                      rw [hvc] at htsc
                      have hrc : rc.1 = md2.2.1.cls := Option.some.inj htsc
                      have hM := met_of (l := l) (dC := dC) (dI := dI) (dA := dA) (q := q) (wl := wl) (A := A) (md := md2) (d := d') (as := .inr (k, i) :: as2) (h := x.2.2.2) (h2 := h1) (r := r1) hB (h00 _ hmm1) hVa hble.1.2
                        (fun p e0 s m args below meth cd X => ih d' md2 _ r1 h1 hmm1 hrun1 p e0 s m args below meth cd X)
                      obtain ⟨p0, hp0, hws0⟩ := ws_get (dA := dA) (q := q) x.2.2.2 hVa.hd
                      rw [ent_obj hk] at hws0
                      have hrecv := va_recv (D := (dC, dI)) hK hw.1 hvc hws0
                      rw [hrc] at hrecv
                      have hpre : PreV s H md2.2.1.cls (q k i) (Pm dC dI dA q wl A (.inr (k, i) :: as2) x.2.2.2) (as2.map (cvv q)) := ⟨Pm_blind, hrecv, fun U hU hWm => ⟨rfl, by rw [hU]; exact hw.1, va_K.moved hWm.alike hK, hw.2.1, fun t ht => va_Nw.warmM hWm (hNW t ht)⟩⟩
                      have hstk : (F0 m (pcA C x.1) ls (x.2.2.1.map (cvv q))).stack = (as2.map (cvv q)).reverse ++ .ref (q k i) :: rest.map (cvv q) := by
                        show x.2.2.1.map (cvv q) = _
                        rw [hst0]
                        simp [cvv]
                      have hpar2 : (parseMethodDescriptor md2.2.1.desc).map (fun d => d.parameters.length) = some as2.length := by
                        cases hpd : parseMethodDescriptor md2.2.1.desc with
                        | none => rw [hpd] at hpar; cases hpar
                        | some sg =>
                          rw [hpd] at hpar
                          have h8 : sg.parameters.length + 1 = b := Option.some.inj hpar
                          simp only [List.length_cons] at hlen0
                          have h9 : sg.parameters.length = as2.length := by omega
                          show some sg.parameters.length = some _
                          rw [h9]
                      have hrun : va_Run p l e0 (rmD (d' + 1)) s m args below meth cd H locs 0 0 0 0 (F0 m (pcA C x.1) ls (x.2.2.1.map (cvv q))) (rest.map (cvv q)) (Qm dC dI dA q wl A r1 h1 (Value.ref (q k i) :: as2.map (cvv q)).toArray) A := by
                        exact va_runV (n := as2.length) ⟨hx, hb, hml, hown, hts⟩ hM ⟨callB_of as2.length hts (good_all hB.1) rfl rfl rfl (hts _ hB.2.1) (hts _ e4) ⟨hB.2.2.2.1.1, hB.2.2.2.1.2, hpar2⟩ (reg_call d' _ hB.2.2.2.2.2), hts _ e5, hts _ e6⟩ hpre rfl (by simp) hl.1 hstk (by rw [wsm_sum]; simpa using hble.1.1) hd ⟨Nat.le_refl _, Nat.le_refl _⟩
                      refine va_callO (r1 := r1) (B := fun t => va_P (dC, dI) vwCl (wsOf dA q wl h1) t.heap) hrun hw.2.2 (fun _ h => h) (fun t H1 locs1 ht hvm hB1 hS1 => ?_)
                      rw [ht] at hB1
                      have K := ihn (VO.clr ks hL) (rst_VO hrok hVO.2) (by rw [← hlen]; exact clr_len ks _) ls H1 locs1 (lv_clr ks hl) ⟨hB1, ws_D hw.2.1, hS1⟩
                      simp only [hn, rst_map] at K
                      exact K
                    · cases hcl
                  · cases hcl
                · cases hmt
              · cases ho
            · cases hr
          · cases hr
        · cases hr
    · -- ends
      split at hr
      · rename_i y hst9
        cases hr
        simp only [okO, decide_eq_true_eq, rtO] at ho hrt
        obtain ⟨rfl, rfl⟩ := ho
        subst hrt
        intro hL hst hlen ls H locs hl hw
        rw [hst9]
        exact W.iret (v := y) hx hb hrr (fun t ht hWm => ⟨rfl, by rw [ht]; exact hw.1, hw.2.2.F ht⟩) hw.2.2.2.2 hd hlk
      · cases hr
    · split at hr
      · rename_i y hst9
        cases hr
        simp only [okO, decide_eq_true_eq, rtO] at ho hrt
        obtain ⟨rfl, rfl⟩ := ho
        subst hrt
        intro hL hst hlen ls H locs hl hw
        rw [hst9]
        exact W_zn (v := y) hx hb hrr (fun t ht hWm => ⟨rfl, by rw [ht]; exact hw.1, hw.2.2.F ht⟩) hw.2.2.2.2 hd hlk
      · cases hr
    · split at hr
      · rename_i y hst9
        cases hr
        simp only [okO, decide_eq_true_eq, rtO] at ho hrt
        obtain ⟨rfl, rfl⟩ := ho
        subst hrt
        intro hL hst hlen ls H locs hl hw
        rw [hst9]
        exact W.lret (v := y) hx hb hrr (fun t ht hWm => ⟨rfl, by rw [ht]; exact hw.1, hw.2.2.F ht⟩) hw.2.2.2.2 hd hlk
      · cases hr
    · split at hr
      · rename_i hst9
        cases hr
        simp only [okO, decide_eq_true_eq, rtO] at ho hrt
        obtain ⟨rfl, rfl⟩ := ho
        subst hrt
        intro hL hst hlen ls H locs hl hw
        rw [hst9]
        exact W.vret hx hb hrr (fun t ht hWm => ⟨rfl, by rw [ht]; exact hw.1, hw.2.2.F ht⟩) hw.2.2.2.2 hd hlk
      · cases hr
    · split at hr
      · rename_i y hy
        have ihn := ih d (own, ynm, bytes, nL, ret, C) _ r h2 hmd hr p e0 s m args below meth cd hX0
        rw [hstep] at hy
        exact At_clr (ks := ks) (sn_op hX0 hFL hML hCI hCJ hW (reg_ok d) hpc (by rw [hpc]; exact hd) ho hnx hlc hy ihn)
      · cases hr
set_option maxHeartbeats 4000000 in
/-- THE CONTRACT OF A METHOD, out of a run of the abstract machine -/
theorem run_met (hP : POK MT FL ML CI CJ) (hW : WOK wl) {n d : Nat} {md : MD} {as : List AV} {h h2 : AH} {r : Option Value} (hmd : md ∈ MT) (hB : mdB md) (hv : VO wl as) (hl : (lay1 as).length ≤ md.2.2.2.1) (hr : run (prg MT) n d md.2.2.2.2.2 (0, mkL md.2.2.2.1 as, [], h) = some (r, h2)) :
    Met l md.2.1 (Cond.code md.2.1 md.2.2.1 md.2.2.2.1 md.2.2.2.2.1 :: lw_g) (rmD d) (Pm dC dI dA q wl A as h) (Qm dC dI dA q wl A r h2) 0 0 A :=
  met_of hB (hP.2.2.2.2.2 _ hmd) hv hl (fun p e0 s m args below meth cd X => run_at hP hW n d md _ r h2 hmd hr p e0 s m args below meth cd X)
end RUN3
