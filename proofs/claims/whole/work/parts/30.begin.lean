/-! ===== the law's entry: two objects, two constructors ===== -/
def WLA : List (Nat × Nat) := WLX ++ WLM
def cmA : Option (List CE × Nat × Nat) := cmR (prg CT) 3000 3 k_X12_init (0, mkL 2 [.inr (0, 65)], [], hpX ++ [.inl (12, dfl 12)], 0, 0)
def hpA : List CE := match cmA with
  | some r => r.1
  | none => []
theorem cmA_c : cmA.map (fun r => r.2) = some (24, 1003) := by decide +kernel
theorem cmA_eq : cmA = some (hpA, 24, 1003) := by
  have h := cmA_c
  unfold hpA
  cases hc : cmA with
  | none => rw [hc] at h; cases h
  | some r =>
    rw [hc] at h
    have e := Option.some.inj h
    show some r = some (r.1, _)
    rw [← e]
theorem shA : (List.range WLA.length).all (shB WLA hpA) = true := by decide +kernel
theorem lnA : hpA.length = WLA.length := by decide +kernel
theorem lnX65 : hpX.length = 65 := by decide +kernel
theorem nodA : WLA.Nodup := by decide +kernel
def h0A : AH := h0of WLA hpA
theorem inst_ok : ∀ r ∈ vwCl, Cond.instantiable r.1 r.2.2 ∈ lw_tbl := pl_ok vwCl [259, 304, 363, 320, 188, 111, 194, 148, 339, 130, 272, 102, 1130] (fun r => Cond.instantiable r.1 r.2.2) (by decide +kernel)
theorem ao_ok : Cond.arrayOver (.object "WhyRoom$Row") ∈ lw_tbl ∧ Cond.arrayOver (.object "WhyRoom$Text") ∈ lw_tbl ∧ Cond.arrayOver (.object "WhyRoom$State") ∈ lw_tbl := ⟨by decide +kernel, by decide +kernel, by decide +kernel⟩
theorem lw_cl : Cond.classLink "WhyRoomLaw" 7 "WhyRoom" ∈ lw_tbl ∧ Cond.classLink "WhyRoomLaw" 10 "WhyRoomModel" ∈ lw_tbl ∧ Cond.initialized "WhyRoom" ∈ lw_tbl ∧ Cond.initialized "WhyRoomModel" ∈ lw_tbl ∧ Cond.methodLink "WhyRoomLaw" 9 ⟨"WhyRoom", "<init>", "()V"⟩ ∈ lw_tbl ∧ Cond.methodLink "WhyRoomLaw" 12 ⟨"WhyRoomModel", "<init>", "()V"⟩ ∈ lw_tbl ∧ Cond.instanceMethod ⟨"WhyRoom", "<init>", "()V"⟩ ∈ lw_tbl ∧ Cond.instanceMethod ⟨"WhyRoomModel", "<init>", "()V"⟩ ∈ lw_tbl := ⟨by decide +kernel, by decide +kernel, by decide +kernel, by decide +kernel, by decide +kernel, by decide +kernel, by decide +kernel, by decide +kernel⟩
theorem pd_V : (parseMethodDescriptor "()V").map (fun d => d.parameters.length) = some 0 := by decide +kernel
/-- the tables' classes and array classes, all at once -/
theorem k_all {s : State} {args : Array Value} (hts : ∀ w ∈ lw_tbl, w.before args s = true) : ∃ (dC : Nat → ClassId) (dI : Nat → Nat → Nat) (dA : Nat → ClassId), va_K (dC, dI) vwCl (tysOf dA) s := by
  have htg : ∀ w ∈ lw_g, w.before args s = true := fun w hw => hts w (List.mem_filter.mp hw).1
  have h1 : ∀ c : Nat, ∃ x : ClassId × (Nat → Nat), ∀ r : vw_C, vwCl[c]? = some r → u_Kn s r.1 r.2.1 r.2.2 x.1 x.2 := by
    intro c
    cases hc : vwCl[c]? with
    | none => exact ⟨(0, fun _ => 0), fun r hr => by cases hr⟩
    | some r =>
      obtain ⟨cC, iS, hk⟩ := u_known htg (cls_ok c r hc).1 (hts _ (inst_ok r (List.mem_of_getElem? hc)))
      exact ⟨(cC, iS), fun r2 hr => by cases hr; exact hk⟩
  have hp : ∀ ty : FieldType, (Cond.arrayClass ty).before args s = true → (∀ C, ty ≠ .object C) → ∃ cA : ClassId, ArrOfT s cA ty ∧ va_RA s cA ty := by
    intro ty hty hno
    obtain ⟨c, k, comp, e1, e2, e3⟩ := Cond.arrayClass_spec hty
    refine ⟨c, fun n z => ⟨fun k h => (by cases h), k, e2, comp, e3⟩, ?_⟩
    cases ty with
    | object C => exact absurd rfl (hno C)
    | _ => exact e1
  have ho : ∀ C : String, (Cond.arrayOver (.object C)).before args s = true → ∃ cA : ClassId, ArrOfT s cA (.object C) ∧ va_RA s cA (.object C) := by
    intro C hC
    obtain ⟨comp, c, k, e1, e2, e3, e4, e5⟩ := Cond.arrayOver_spec hC
    exact ⟨c, fun n z => ⟨fun k h => (by cases h), k, e3, comp, e4⟩, ⟨k, comp, e3, e4, e1, e5⟩⟩
  obtain ⟨f, hf⟩ := Classical.axiomOfChoice h1
  obtain ⟨c0, a0⟩ := hp .int (htg _ arr_in.1) (fun C h => by cases h)
  obtain ⟨c1, a1⟩ := hp .byte (htg _ arr_in.2.1) (fun C h => by cases h)
  obtain ⟨c2, a2⟩ := hp .boolean (htg _ arr_in.2.2.1) (fun C h => by cases h)
  obtain ⟨c3, a3⟩ := hp .long (htg _ arr_in.2.2.2) (fun C h => by cases h)
  obtain ⟨c4, a4⟩ := ho _ (hts _ ao_ok.1)
  obtain ⟨c5, a5⟩ := ho _ (hts _ ao_ok.2.1)
  obtain ⟨c6, a6⟩ := ho _ (hts _ ao_ok.2.2)
  refine ⟨fun c => (f c).1, fun c => (f c).2, fun t => [c0, c1, c2, c3, c4, c5, c6].getD t 0, fun c r hr => hf c r hr, fun k x hx => ?_⟩
  match k, hx with
  | 0, hx => cases hx; exact a0
  | 1, hx => cases hx; exact a1
  | 2, hx => cases hx; exact a2
  | 3, hx => cases hx; exact a3
  | 4, hx => cases hx; exact a4
  | 5, hx => cases hx; exact a5
  | 6, hx => cases hx; exact a6
  | k + 7, hx => cases hx
theorem cm_met {l : Launch} {dC : Nat → ClassId} {dI : Nat → Nat → Nat} {dA : Nat → ClassId} {B n d MC MS : Nat} {md : MD} {as : List AV} {ad : List Nat} {hp hp2 : List CE} (hmd : md ∈ CT) (hv : VA hp.length as) (hVH : VH hp) (hal : ad.length = hp.length) (hl : (lay1 as).length ≤ md.2.2.2.1) (hr : cmR (prg CT) n d md.2.2.2.2.2 (0, mkL md.2.2.2.1 as, [], hp, 0, 0) = some (hp2, MC, MS)) :
    Met l md.2.1 (Cond.code md.2.1 md.2.2.1 md.2.2.2.1 none :: lw_g) (rmC d MC MS) (PmC dC dI dA B ad as hp) (QmC dC dI dA B ad hp2) MC MS (fun q => B ≤ q) := by
  obtain ⟨own, ynm, bytes, nL, ret, C⟩ := md
  obtain ⟨⟨hret, hyn⟩, -⟩ := okN_at (pokc.2.2.2.1 _ hmd)
  exact cm_of (ct_ok _ hmd).1 hret hyn (ct_ok _ hmd).2 hv hVH hal hl (fun p e0 s m args below meth cd X => cm_at pokc n d _ _ hp2 MC MS hmd hr ad p e0 s m args below meth cd X)
theorem wsOf_app {dA : Nat → ClassId} {q : Nat → Nat → Nat} {w1 w2 : List (Nat × Nat)} {h : AH} : wsOf dA q (w1 ++ w2) h = wsOf dA q w1 h ++ wsOf dA q w2 h := List.map_append
theorem va_P_l {D : va_G} {cl : List vw_C} {w1 w2 : va_W} {H : Heap} (h : va_P D cl (w1 ++ w2) H) : va_P D cl w1 H := fun k q hk => h k q (by rw [List.getElem?_append_left (List.getElem?_eq_some_iff.mp hk).1]; exact hk)
theorem va_P_r {D : va_G} {cl : List vw_C} {w1 w2 : va_W} {H : Heap} (h : va_P D cl (w1 ++ w2) H) : va_P D cl w2 H := fun k q hk => h (w1.length + k) q (by rw [List.getElem?_append_right (by omega), Nat.add_sub_cancel_left]; exact hk)
/-- apart addresses, by places -/
theorem wsOf_D {A B : Nat → Prop} {dA : Nat → ClassId} {q : Nat → Nat → Nat} {wl : List (Nat × Nat)} {h h2 : AH} (hD : va_D A (wsOf dA q wl h)) (hB : ∀ r ∈ wl, B (q r.1 r.2)) : va_D B (wsOf dA q wl h2) := by
  refine ⟨(ws_D (h2 := h2) hD).1, fun k x hx => ?_⟩
  rw [wsOf, List.getElem?_map] at hx
  cases hw : wl[k]? with
  | none => rw [hw] at hx; cases hx
  | some z =>
    rw [hw] at hx
    cases hx
    exact hB z (List.mem_of_getElem? hw)
theorem wsOf_ge {A : Nat → Prop} {dA : Nat → ClassId} {q : Nat → Nat → Nat} {wl : List (Nat × Nat)} {h : AH} (hD : va_D A (wsOf dA q wl h)) : ∀ r ∈ wl, A (q r.1 r.2) := by
  intro r hr
  obtain ⟨k, hk⟩ := List.getElem?_of_mem hr
  exact hD.2 k (q r.1 r.2, ent dA q h r.1 r.2) (by rw [wsOf, List.getElem?_map, hk]; rfl)
theorem va_D_l {A : Nat → Prop} {w1 w2 : va_W} (h : va_D A (w1 ++ w2)) : va_D A w1 := ⟨fun i j x y hi hj hxy => h.1 i j x y (by rw [List.getElem?_append_left (List.getElem?_eq_some_iff.mp hi).1]; exact hi) (by rw [List.getElem?_append_left (List.getElem?_eq_some_iff.mp hj).1]; exact hj) hxy, fun k x hk => h.2 k x (by rw [List.getElem?_append_left (List.getElem?_eq_some_iff.mp hk).1]; exact hk)⟩
theorem va_D_r {A : Nat → Prop} {w1 w2 : va_W} (h : va_D A (w1 ++ w2)) : va_D A w2 := ⟨fun i j x y hi hj hxy => by
  have := h.1 (w1.length + i) (w1.length + j) x y (by rw [List.getElem?_append_right (by omega), Nat.add_sub_cancel_left]; exact hi) (by rw [List.getElem?_append_right (by omega), Nat.add_sub_cancel_left]; exact hj) hxy
  omega, fun k x hk => h.2 (w1.length + k) x (by rw [List.getElem?_append_right (by omega), Nat.add_sub_cancel_left]; exact hk)⟩
theorem va_D_lr {A : Nat → Prop} {dA : Nat → ClassId} {q : Nat → Nat → Nat} {w1 w2 : List (Nat × Nat)} {h : AH} (hD : va_D A (wsOf dA q (w1 ++ w2) h)) : ∀ r ∈ w1, ∀ r' ∈ w2, q r.1 r.2 ≠ q r'.1 r'.2 := by
  intro r hr r' hr' he
  obtain ⟨i, hi⟩ := List.getElem?_of_mem hr
  obtain ⟨j, hj⟩ := List.getElem?_of_mem hr'
  have hil := (List.getElem?_eq_some_iff.mp hi).1
  have := hD.1 i (w1.length + j) (q r.1 r.2, ent dA q h r.1 r.2) (q r'.1 r'.2, ent dA q h r'.1 r'.2) (by rw [wsOf, List.getElem?_map, List.getElem?_append_left hil, hi]; rfl) (by rw [wsOf, List.getElem?_map, List.getElem?_append_right (by omega), Nat.add_sub_cancel_left, hj]; rfl) he
  omega
set_option maxHeartbeats 8000000 in
set_option maxRecDepth 100000 in
/-- FROM THE ENTRY, given a relation that every call keeps and that holds of the two fresh objects -/
theorem whole_rel {Rel : AH → AH → Prop} (hA : AllEq Rel) (h00 : Rel h0A h0A) {p : Program} {e : Env} {s : State} {m : MethodId} {below : List Frame} {meth : Method} {c : Code} (l : Launch) {b L : Nat} {xs : Nat → Int32} (hL : L ≤ 384) (C0 : lw_At p s m meth c b L xs) : W p l e room_1 s m #[Value.ref b] below meth c s.heap [] 0 0 (lw_Z below #[Value.ref b] s) (entryFrame m ([Value.ref b] : List Value).toArray 4) := by
  obtain ⟨hx, hb, hr, hml, hown, hts, hX, hbl, hlocks, hgv⟩ := C0
  obtain ⟨dC, dI, dA, hK⟩ := k_all hts
  have htg : ∀ w ∈ lw_g, w.before #[Value.ref b] s = true := fun w hw => hts w (List.mem_filter.mp hw).1
  have hNW : ∀ t ∈ NW, va_Nw (.methodLinkNest t.1 t.2.1 t.2.2.1 t.2.2.2) s := fun t ht => va_Nw.of rfl (hts _ (nw_in t ht))
  have a1 : va_AO "WhyRoom$Row" s := va_AO.of (hts _ ao_ok.1)
  have a2 : va_AO "WhyRoom$Text" s := va_AO.of (hts _ ao_ok.2.1)
  have a3 : va_AO "WhyRoom$State" s := va_AO.of (hts _ ao_ok.2.2)
  rw [lg_entry_eq]
  have hl := lv_entry ([.ref b]) (n := 4) (Nat.le_of_ble_eq_true rfl)
  generalize (lg_sl ([.ref b]) ++ List.replicate (4 - (lg_sl ([.ref b])).length) Slot.unset).toArray = ls at hl ⊢
  have hl : lv_has ls 4 [(0, .ref b)] := hl
  have hdf : ∀ (ci N : Nat) (Cn : String) (T : u_T) (ty0 : Nat → FieldType), vwCl[ci]? = some (Cn, T, N) → (∀ k, k < N → parseFieldDescriptor (T k).2.2.1 = some (ty0 k)) → ∀ ad : List Nat, ∀ k, k < N → defaultValue (ty0 k) = vp_V ((dfl ci).map (cvv (qa ad))) k := by
    intro ci N Cn T ty0 hc hty ad k hk
    have h9 := List.all_eq_true.mp cl_tys _ (List.mem_of_getElem? hc)
    have h8 := List.all_eq_true.mp h9 k (List.mem_range.mpr hk)
    simp only [hty k hk] at h8
    have e1 : vp_V ((dfl ci).map (cvv (qa ad))) k = cvv (qa ad) (dflV (some (ty0 k))) := by
      unfold vp_V dfl
      rw [hc]
      simp [List.getD_eq_getElem?_getD, hk, hty k hk]
    rw [e1]
    refine dflV_ok _ ?_
    generalize ty0 k = ty at h8
    cases ty <;> first | (simp [tyGd] at h8; done) | (refine ⟨?_, ?_, ?_, ?_, ?_⟩ <;> simp)
  have hS0 : va_S (fun q => s.heap.size ≤ q) s.heap s.heap [] := va_S.rf
  have hP0 : va_P (dC, dI) vwCl ([] : va_W) s.heap := fun k q hk => by simp at hk
  have hD0 : va_D (fun q => s.heap.size ≤ q) ([] : va_W) := ⟨fun i j x y hi _ _ => by simp at hi, fun k q hk => by simp at hk⟩
  -- new WhyRoom
  refine va_new (D := (dC, dI)) (cl := vwCl) (tys := tysOf dA) (ws := []) (A := fun q => s.heap.size ≤ q) (ci := 11) (fs := (dfl 11).map (cvv (qa []))) (C := RX11) (T := TX11) (N := 17) hx hb htg (cls_ok 11 _ rfl).1 tyX11 tyX11_ok hown (hts _ lw_cl.1) (hts _ (inst_ok (RX11, TX11, 17) (List.mem_of_getElem? (i := 11) rfl))) (hts _ lw_cl.2.2.1) hK hP0 hD0 hS0 (fun q hq => hq) rfl (hdf 11 17 RX11 TX11 tyX11 rfl tyX11_ok []) (by decide) (by decide) (ld_ lk0 0 rfl) (fun q0 H hP hD hS => ?_)
  refine lv_dup hx hb (ld_ lk0 1 rfl) rfl ?_
  have hv1 : VA 1 [Sum.inr (0, 0)] := VA.ref (by decide) VA.nil
  have hVH1 : VH [(Sum.inl (11, dfl 11) : CE)] := fun e9 he9 => by rw [List.mem_singleton.mp he9]; exact dfl_VA _ _
  have hw1 : wsC dA [q0] [.inl (11, dfl 11)] = [] ++ [(q0, .inr (11, (dfl 11).map (cvv (qa []))))] := by
    show [(q0, ccE dA [q0] (.inl (11, dfl 11)))] = [(q0, _)]
    rw [show ccE dA [q0] (.inl (11, dfl 11)) = .inr (11, (dfl 11).map (cvv (qa ([] ++ [q0])))) from rfl, map_more (ad := []) (ad2 := [q0]) (dfl_VA _ _)]
  have hM1 := cm_met (l := l) (dC := dC) (dI := dI) (dA := dA) (B := s.heap.size) (n := 3000) (d := 3) (md := ("WhyRoom", ⟨"WhyRoom", "<init>", "()V"⟩, prog_1_method_1_code, 2, none, k_X11_init)) (as := [.inr (0, 0)]) (ad := [q0]) (hp := [.inl (11, dfl 11)]) (hp2 := hpX) (MC := 64) (MS := 1205) (List.mem_of_getElem? (i := 11) rfl) hv1 hVH1 rfl (by decide) cmX_eq
  refine va_callO (r1 := none) (A0 := fun q => s.heap.size ≤ q) (B := fun t => ∃ ad1 : List Nat, ([q0] ++ ad1).length = hpX.length ∧ va_P (dC, dI) vwCl (wsC dA ([q0] ++ ad1) hpX) t.heap ∧ va_D (fun q => s.heap.size ≤ q) (wsC dA ([q0] ++ ad1) hpX) ∧ VH hpX) (va_runI (n := 0) (As := []) (rest := [.ref q0]) (b := q0) ⟨hx, hb, hml, hown, htg⟩ hM1 (cwI 0 htg (good_all (ct_ok _ (List.mem_of_getElem? (i := 11) rfl)).1.1) rfl rfl rfl (hts _ lw_cl.2.2.1) (hts _ lw_cl.2.2.2.2.1) (hts _ lw_cl.2.2.2.2.2.2.1) rfl ⟨by decide, by decide, pd_V⟩ ⟨by decide, by decide⟩) ⟨PmC_blind, fun U hU hWm => ⟨rfl, by rw [hU, hw1]; exact hP, va_K.moved hWm.alike hK, by rw [hw1]; exact hD, fun t ht => va_Nw.warmM hWm (hNW t ht), by rw [hU]; exact hS.1, va_AO.moved hWm.alike a1, va_AO.moved hWm.alike a2, va_AO.moved hWm.alike a3⟩⟩ rfl rfl hl.1 rfl (by show 2 * 0 + 1 ≤ 8; decide) (ld_ lk0 2 rfl) ⟨by decide, by decide⟩) hS (fun _ h => h) (fun t H1 locs1 ht hvm hB1 hS1 => ?_)
  obtain ⟨ad1, hal1, hP1, hD1, hVHX⟩ := hB1
  rw [ht] at hP1
  refine lv_astore_n (lv' := [(1, .ref q0), (0, .ref b)]) hx hb (ld_ lk0 3 rfl) rfl hl (by decide) rfl (fun ls hl => ?_)
  -- new WhyRoomModel
  refine va_new (D := (dC, dI)) (cl := vwCl) (tys := tysOf dA) (ws := wsC dA ([q0] ++ ad1) hpX) (A := fun q => s.heap.size ≤ q) (ci := 12) (fs := (dfl 12).map (cvv (qa ([q0] ++ ad1)))) (C := RX12) (T := TX12) (N := 40) hx hb htg (cls_ok 12 _ rfl).1 tyX12 tyX12_ok hown (hts _ lw_cl.2.1) (hts _ (inst_ok (RX12, TX12, 40) (List.mem_of_getElem? (i := 12) rfl))) (hts _ lw_cl.2.2.2.1) hK hP1 hD1 hS1 (fun q hq => hq) rfl (hdf 12 40 RX12 TX12 tyX12 rfl tyX12_ok _) (by decide) (by decide) (ld_ lk0 4 rfl) (fun q1 H2 hP2 hD2 hS2 => ?_)
  refine lv_dup hx hb (ld_ lk0 5 rfl) rfl ?_
  have hpush : wsC dA ([q0] ++ ad1) hpX ++ [(q1, .inr (12, (dfl 12).map (cvv (qa ([q0] ++ ad1)))))] = wsC dA (([q0] ++ ad1) ++ [q1]) (hpX ++ [.inl (12, dfl 12)]) := ws_pushC hal1 hVHX (by
    show (Sum.inr (12, _) : va_E) = Sum.inr (12, (dfl 12).map (cvv (qa (([q0] ++ ad1) ++ [q1]))))
    rw [map_more (ad := [q0] ++ ad1) (ad2 := [q1]) (dfl_VA _ _)])
  rw [hpush] at hP2 hD2
  have hal2 : (([q0] ++ ad1) ++ [q1]).length = (hpX ++ [(Sum.inl (12, dfl 12) : CE)]).length := by
    simp only [List.length_append, List.length_cons, List.length_nil] at hal1 ⊢
    omega
  have hl66 : (hpX ++ [(Sum.inl (12, dfl 12) : CE)]).length = 66 := by rw [List.length_append, lnX65]; rfl
  have hv2 : VA (hpX ++ [(Sum.inl (12, dfl 12) : CE)]).length [Sum.inr (0, 65)] := by rw [hl66]; exact VA.ref (by decide) VA.nil
  have hVH2 : VH (hpX ++ [(Sum.inl (12, dfl 12) : CE)]) := hVHX.push (dfl_VA _ _)
  have hq1 : (([q0] ++ ad1) ++ [q1]).getD 65 0 = q1 := getD_last _ _ (by rw [hal1, lnX65])
  have hM2 := cm_met (l := l) (dC := dC) (dI := dI) (dA := dA) (B := s.heap.size) (n := 3000) (d := 3) (md := ("WhyRoomModel", ⟨"WhyRoomModel", "<init>", "()V"⟩, prog_14_method_1_code, 2, none, k_X12_init)) (as := [.inr (0, 65)]) (ad := ([q0] ++ ad1) ++ [q1]) (hp := hpX ++ [(Sum.inl (12, dfl 12) : CE)]) (hp2 := hpA) (MC := 24) (MS := 1003) (List.mem_of_getElem? (i := 12) rfl) hv2 hVH2 hal2 (by decide) cmA_eq
  refine va_callO (r1 := none) (A0 := fun q => s.heap.size ≤ q) (B := fun t => ∃ ad2 : List Nat, ((([q0] ++ ad1) ++ [q1]) ++ ad2).length = hpA.length ∧ va_P (dC, dI) vwCl (wsC dA ((([q0] ++ ad1) ++ [q1]) ++ ad2) hpA) t.heap ∧ va_D (fun q => s.heap.size ≤ q) (wsC dA ((([q0] ++ ad1) ++ [q1]) ++ ad2) hpA) ∧ VH hpA) (va_runI (n := 0) (As := []) (rest := [.ref q1]) (b := q1) ⟨hx, hb, hml, hown, htg⟩ hM2 (cwI 0 htg (good_all (ct_ok _ (List.mem_of_getElem? (i := 12) rfl)).1.1) rfl rfl rfl (hts _ lw_cl.2.2.2.1) (hts _ lw_cl.2.2.2.2.2.1) (hts _ lw_cl.2.2.2.2.2.2.2) rfl ⟨by decide, by decide, pd_V⟩ ⟨by decide, by decide⟩) ⟨PmC_blind, fun U hU hWm => ⟨by show #[Value.ref q1] = #[Value.ref ((([q0] ++ ad1) ++ [q1]).getD 65 0)]; rw [hq1], by rw [hU]; exact hP2, va_K.moved hWm.alike hK, hD2, fun t ht => va_Nw.warmM hWm (hNW t ht), by rw [hU]; exact hS2.1, va_AO.moved hWm.alike a1, va_AO.moved hWm.alike a2, va_AO.moved hWm.alike a3⟩⟩ rfl rfl hl.1 rfl (by show 2 * 0 + 1 ≤ 8; decide) (ld_ lk0 6 rfl) ⟨by decide, by decide⟩) hS2 (fun _ h => h) (fun t H3 locs3 ht3 hvm3 hB3 hS3 => ?_)
  obtain ⟨ad2, hal3, hP3, hD3, -⟩ := hB3
  rw [ht3] at hP3
  have hP4 := ws_conv shA lnA hal3 hP3
  have hD4 := ws_convD shA lnA hal3 hD3
  generalize hqd : qW WLA ((([q0] ++ ad1) ++ [q1]) ++ ad2) = q at hP4 hD4
  have eq0 : q 0 0 = q0 := by rw [← hqd]; show ((([q0] ++ ad1) ++ [q1]) ++ ad2).getD (posW WLA 0 0) 0 = q0; rw [show posW WLA 0 0 = 0 by decide +kernel]; rfl
  have eq1 : q 34 0 = q1 := by
    rw [← hqd]
    show ((([q0] ++ ad1) ++ [q1]) ++ ad2).getD (posW WLA 34 0) 0 = q1
    rw [show posW WLA 34 0 = 65 by decide +kernel, getD_app (by rw [hal2, hl66]; decide)]
    exact hq1
  have hD4' : va_D (fun a => s.heap.size ≤ a) (wsOf dA q WLX h0A ++ wsOf dA q WLM h0A) := by rw [← wsOf_app]; exact hD4
  have hP4' : va_P (dC, dI) vwCl (wsOf dA q WLX h0A ++ wsOf dA q WLM h0A) H3 := by rw [← wsOf_app]; exact hP4
  have hDX := va_D_l hD4'
  have hDM := va_D_r hD4'
  refine lv_astore_n (lv' := [(2, .ref q1), (1, .ref q0), (0, .ref b)]) hx hb (ld_ lk0 7 rfl) rfl hl (by decide) rfl (fun ls hl => ?_)
  refine lv_iconst (v := 0) hx hb (ld_ lk0 8 rfl) (by decide) ?_
  refine lv_istore_n (lv' := [(3, .int 0), (2, .ref q1), (1, .ref q0), (0, .ref b)]) hx hb (ld_ lk0 9 rfl) rfl hl (by decide) rfl (fun ls hl => ?_)
  rw [← eq0, ← eq1] at hl
  exact law_loop (dC := dC) (dI := dI) (dA := dA) (qX := q) (qM := q) (xs := xs) ⟨⟨hx, hb, hr, hml, hown, hts, hX, hbl, hlocks⟩, hK, fun h => wsOf_D hDX (fun r hr => ⟨r, hr, rfl⟩), fun h => wsOf_D hDM (fun r hr => ⟨r, hr, rfl⟩), va_D_lr hD4, wsOf_ge hDX, wsOf_ge hDM⟩ hL hA (L + 6) 0 h0A h0A H3 locs3 ls (by omega) (Nat.zero_le _) ⟨va_P_l hP4', va_P_r hP4', hS3⟩ h00 (lv_sub hl [3, 2, 1, 0] rfl)
