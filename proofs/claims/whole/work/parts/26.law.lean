/-! ===== the law: its calls ===== -/
def AW (q : Nat → Nat → Nat) (wl : List (Nat × Nat)) : Nat → Prop := fun a => ∃ r ∈ wl, a = q r.1 r.2
/-- two worlds side by side: what each holds; what was there before the law stays -/
def LI (s : State) (dC : Nat → ClassId) (dI : Nat → Nat → Nat) (dA : Nat → ClassId) (qX qM : Nat → Nat → Nat) (hx hm : AH) (H : Heap) (locs : List Loc) : Prop :=
  va_P (dC, dI) vwCl (wsOf dA qX WLX hx) H ∧ va_P (dC, dI) vwCl (wsOf dA qM WLM hm) H ∧ va_S (fun a => s.heap.size ≤ a) s.heap H locs
/-- what the law's walk knows -/
def LCx (p : Program) (s : State) (m : MethodId) (meth : Method) (c : Code) (b L : Nat) (xs : Nat → Int32) (dC : Nat → ClassId) (dI : Nat → Nat → Nat) (dA : Nat → ClassId) (qX qM : Nat → Nat → Nat) : Prop :=
  (p.tables.exec = Jvm.exec ∧ c.code = code ∧ meth.sig.returnType = ret ∧ c.maxLocals = 4 ∧ s.vm.findClass "WhyRoomLaw" = some m.cls ∧ (∀ w ∈ lw_tbl, w.before #[Value.ref b] s = true) ∧ va_X b L xs s s.heap ∧ b < s.heap.size ∧ meth.locks = false) ∧
  va_K (dC, dI) vwCl (tysOf dA) s ∧ (∀ h, va_D (AW qX WLX) (wsOf dA qX WLX h)) ∧ (∀ h, va_D (AW qM WLM) (wsOf dA qM WLM h)) ∧ (∀ r ∈ WLX, ∀ r' ∈ WLM, qX r.1 r.2 ≠ qM r'.1 r'.2) ∧ (∀ r ∈ WLX, s.heap.size ≤ qX r.1 r.2) ∧ (∀ r ∈ WLM, s.heap.size ≤ qM r.1 r.2)
section LAW
variable {p : Program} {l : Launch} {e0 : Env} {s : State} {m : MethodId} {args : Array Value} {below : List Frame} {meth : Method} {cd : Code} {Q : State → Prop} {H : Heap} {locs : List Loc} {cells slots : Nat}
variable {dC : Nat → ClassId} {dI : Nat → Nat → Nat} {dA : Nat → ClassId}
theorem va_callP {R : Room} {pc : Nat} {ls : Array Slot} {rest st0 : List Value} {A0 A1 : Nat → Prop} {H0 : Heap} {r1 : Option Value} {B : State → Prop} (hr : va_Run p l e0 R s m args below meth cd H locs cells slots 0 0 (F0 m pc ls st0) rest (fun st oc t => oc = .returned r1 ∧ B t ∧ va_F A1 st t) A1) (hS : va_S A0 H0 H locs) (hf : ∀ q, A1 q → A0 q)
    (kk : ∀ (t : State) (H1 : Heap) (locs1 : List Loc), t.heap = H1 → B t → (∀ q : Nat, q < H.size → ¬ A1 q → H1[q]? = H[q]?) → va_S A0 H0 H1 locs1 → W p l e0 R s m args below meth cd H1 locs1 cells slots Q (F0 m (pc + 3) ls (r1.toList ++ rest))) : W p l e0 R s m args below meth cd H locs cells slots Q (F0 m pc ls st0) := by
  intro T hT X
  obtain ⟨v, st₀, t, T', L, h0, X', hL, e1, e2, ⟨hv, hb, hz, hk⟩, st⟩ := hr T hT X
  cases hv
  rw [h0] at hz hk
  obtain ⟨t2, a1, b1⟩ := kk t T'.heap (locs ++ L) e1.symm hb (fun q h1 h2 => by rw [e1]; exact hk q h1 h2)
    ⟨Nat.le_trans hS.1 (by rw [e1]; exact hz), fun q h1 h2 => by rw [e1, hk q (Nat.lt_of_lt_of_le h1 hS.1) (fun z => h2 (hf q z))]; exact hS.2.1 q h1 h2, fun q hq => by
      rcases List.mem_append.mp hq with h | h
      · exact hS.2.2 q h
      · exact hf _ (hL q h)⟩ T' rfl X'
  exact ⟨t2, st t2 a1, b1⟩
set_option maxHeartbeats 4000000 in
/-- a call of a method on one of the two worlds -/
theorem law_call {wl wl' : List (Nat × Nat)} {q q' : Nat → Nat → Nat} (hW : WOK wl) {b0 : Nat}
    (F : p.tables.exec = Jvm.exec ∧ cd.code = code ∧ cd.maxLocals = 4 ∧ s.vm.findClass "WhyRoomLaw" = some m.cls ∧ (∀ w ∈ lw_tbl, w.before args s = true)) (hK : va_K (dC, dI) vwCl (tysOf dA) s)
    (hD : ∀ h, va_D (AW q wl) (wsOf dA q wl h)) (hap : ∀ r ∈ wl, ∀ r' ∈ wl', q r.1 r.2 ≠ q' r'.1 r'.2) (hge : ∀ r ∈ wl, s.heap.size ≤ q r.1 r.2)
    {h h2 h' : AH} (hP : va_P (dC, dI) vwCl (wsOf dA q wl h) H) (hP' : va_P (dC, dI) vwCl (wsOf dA q' wl' h') H) (hS : va_S (fun a => s.heap.size ≤ a) s.heap H locs)
    {idx cal k ci d : Nat} {md : MD} {r : Option Value} {fs : List FE} {rc : vw_C} (hM : MLok MT ("WhyRoomLaw", idx, 0, cal)) (hmd : MT[cal]? = some md) (hk : kd k = .inr (ci, fs)) (hvc : vwCl[ci]? = some rc) (hcls : rc.1 = md.2.1.cls) (hkw : (k, 0) ∈ wl)
    {as : List AV} (hv : VO wl as) (hpar : (parseMethodDescriptor md.2.1.desc).map (fun d => d.parameters.length) = some as.length) (hlay : (lay1 (.inr (k, 0) :: as)).length ≤ md.2.2.2.1)
    (hrun : Runs PP d md.2.2.2.2.2 (0, mkL md.2.2.2.1 (.inr (k, 0) :: as), [], h) (r, h2)) (hd : d ≤ 100)
    {pc : Nat} {ls : Array Slot} (hls : ls.size = 4) {rest : List Value} (hdec : decode code pc = .ok (.invokevirtual idx, 3)) (hrs : (rest.map fun v => v.category).sum ≤ 8)
    (kk : ∀ (H1 : Heap) (locs1 : List Loc), va_P (dC, dI) vwCl (wsOf dA q wl h2) H1 → va_P (dC, dI) vwCl (wsOf dA q' wl' h') H1 → va_S (fun a => s.heap.size ≤ a) s.heap H1 locs1 → W p l e0 room_1 s m args below meth cd H1 locs1 90 2265 Q (F0 m (pc + 3) ls (r.toList ++ rest))) :
    W p l e0 room_1 s m args below meth cd H locs 90 2265 Q (F0 m pc ls ((as.map (cvv q)).reverse ++ .ref (q k 0) :: rest)) := by
  obtain ⟨hx, hb, hml, hown, hts0⟩ := F
  have hts : ∀ w ∈ lw_g, w.before args s = true := fun w hw => hts0 w (List.mem_filter.mp hw).1
  have hNW : ∀ t ∈ NW, va_Nw (.methodLinkNest t.1 t.2.1 t.2.2.1 t.2.2.2) s := fun t ht => va_Nw.of rfl (hts0 _ (nw_in t ht))
  obtain ⟨md2, e2, hB, e4, e5, e6⟩ := hM
  have : md2 = md := Option.some.inj (e2.symm.trans hmd)
  subst this
  obtain ⟨n, hn⟩ := hrun
  have hVa : VO wl (.inr (k, 0) :: as) := VO.ref hkw hv
  have hMet := run_met (l := l) (dC := dC) (dI := dI) (dA := dA) (q := q) (wl := wl) (A := AW q wl) pok hW (List.mem_of_getElem? hmd) hB hVa hlay hn
  obtain ⟨p0, hp0, hws0⟩ := ws_get (dA := dA) (q := q) h hkw
  rw [ent_obj hk] at hws0
  have hrecv := va_recv (D := (dC, dI)) hK hP hvc hws0
  rw [hcls] at hrecv
  have hpre : PreV s H md2.2.1.cls (q k 0) (Pm dC dI dA q wl (AW q wl) (.inr (k, 0) :: as) h) (as.map (cvv q)) := ⟨Pm_blind, hrecv, fun U hU hWm => ⟨rfl, by rw [hU]; exact hP, va_K.moved hWm.alike hK, hD h, fun t ht => va_Nw.warmM hWm (hNW t ht)⟩⟩
  have hreg : (rmD d).frames + 1 ≤ room_1.frames ∧ 8 + (md2.2.2.2.1 + 11) + (rmD d).locals ≤ room_1.locals := ⟨by show d + 1 + 1 ≤ 2048; omega, by
    have := hB.2.2.2.2.2
    show 8 + (md2.2.2.2.1 + 11) + (40 * d + 60) ≤ 84000
    omega⟩
  have hrn : va_Run p l e0 room_1 s m args below meth cd H locs 90 2265 0 0 (F0 m pc ls ((as.map (cvv q)).reverse ++ .ref (q k 0) :: rest)) rest (Qm dC dI dA q wl (AW q wl) r h2 (Value.ref (q k 0) :: as.map (cvv q)).toArray) (AW q wl) :=
    va_runV (n := as.length) ⟨hx, hb, hml, hown, hts⟩ hMet ⟨callB_of as.length hts (good_all hB.1) rfl rfl rfl (hts _ hB.2.1) (hts _ e4) ⟨hB.2.2.2.1.1, hB.2.2.2.1.2, hpar⟩ hreg, hts _ e5, hts _ e6⟩ hpre rfl (by simp) hls rfl (by show 2 * 0 + _ ≤ 8; omega) hdec ⟨by decide, by decide⟩
  refine va_callP (r1 := r) (B := fun t => va_P (dC, dI) vwCl (wsOf dA q wl h2) t.heap) hrn hS (fun a ha => by obtain ⟨r9, h9, rfl⟩ := ha; exact hge r9 h9) (fun t H1 locs1 ht hB1 hk1 hS1 => ?_)
  rw [ht] at hB1
  refine kk H1 locs1 hB1 (hP'.kept fun k9 x9 hx9 => ?_) hS1
  have hlt := (hP' k9 x9 hx9).lt
  refine hk1 _ hlt fun hA => ?_
  obtain ⟨r9, h9, e9⟩ := hA
  rw [wsOf, List.getElem?_map] at hx9
  cases hw : wl'[k9]? with
  | none => rw [hw] at hx9; cases hx9
  | some z =>
    rw [hw] at hx9
    cases hx9
    exact hap r9 h9 z (List.mem_of_getElem? hw) e9.symm
end LAW
