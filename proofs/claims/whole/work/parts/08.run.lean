/-! ===== a run of the abstract machine is a contract of the machine ===== -/
def rmD (d : Nat) : Room := { frames := d + 1, cells := 0, slots := 0, locals := 40 * d + 60 }
def prg (MT : List MD) (a : Nat) : List IE := match MT[a]? with
  | some md => md.2.2.2.2.2
  | none => []
def Pm (dC : Nat → ClassId) (dI : Nat → Nat → Nat) (dA : Nat → ClassId) (q : Nat → Nat → Nat) (wl : List (Nat × Nat)) (A : Nat → Prop) (as : List AV) (h : AH) : Array Value → State → Prop :=
  va_Pc (as.map (cvv q)) (fun U => va_P (dC, dI) vwCl (wsOf dA q wl h) U.heap ∧ va_K (dC, dI) vwCl (tysOf dA) U ∧ va_D A (wsOf dA q wl h) ∧ ∀ t ∈ NW, va_Nw (.methodLinkNest t.1 t.2.1 t.2.2.1 t.2.2.2) U)
def Qm (dC : Nat → ClassId) (dI : Nat → Nat → Nat) (dA : Nat → ClassId) (q : Nat → Nat → Nat) (wl : List (Nat × Nat)) (A : Nat → Prop) (r : Option Value) (h : AH) : Array Value → State → Outcome → State → Prop :=
  fun _ st oc t => oc = .returned r ∧ va_P (dC, dI) vwCl (wsOf dA q wl h) t.heap ∧ va_F A st t
theorem Pm_blind {dC : Nat → ClassId} {dI : Nat → Nat → Nat} {dA : Nat → ClassId} {q : Nat → Nat → Nat} {wl : List (Nat × Nat)} {A : Nat → Prop} {as : List AV} {h : AH} : FrameBlind (Pm dC dI dA q wl A as h) := by
  intro a U g mk hq
  obtain ⟨q0, qP, qK, qD, qN⟩ := hq
  exact ⟨q0, qP, va_K.moved (u := U) (U := U.calling g mk a) (Vm.Alike.refl U.vm) qK, qD, fun t ht => va_Nw.same rfl (rfl : U.vm = (U.calling g mk a).vm) (qN t ht)⟩
section RN
variable {p : Program} {l : Launch} {e0 : Env} {R : Room} {s : State} {m : MethodId} {args : Array Value} {below : List Frame} {meth : Method} {cd : Code} {Q : State → Prop} {H : Heap} {locs : List Loc} {cells slots : Nat}
theorem W_zn {cc : ByteArray} {Qc : Array Value → State → Outcome → State → Prop} {free : Addr → Prop} {v : Int32} (hexec : p.tables.exec = Jvm.exec) (hb : cd.code = cc) (hr : meth.sig.returnType = some .boolean)
    (hq : ∀ t : State, t.heap = H → s.WarmedH t.vm → Qc args s (.returned (some (.int (zn v)))) t) (hf : ∀ q ∈ locs, free q.base)
    {pc : Nat} {ls : Array Slot} (hdg : decode cc pc = .ok (.ireturn, 1)) (hlocks : meth.locks = false) : W p l e0 R s m args below meth cd H locs cells slots (MQ below Qc args s cells slots free) (F0 m pc ls [.int v]) := by
  intro T hT X
  obtain ⟨fs, hret, hrun, hended, hW, hframe⟩ := X.leave (v := some (.int (zn v))) (fun h => by rw [hr] at h; cases h)
  have hmeth' : T.vm.method? m = some meth := X.method'
  have hnar : narrow .boolean (.int v) = .int (zn v) := rfl
  refine ⟨T.setFrames fs, ?_, .returned (some (.int (zn v))), hrun, hended, hq _ hT hW, locs, ⟨⟨_, rfl⟩, hW, hframe⟩, hf⟩
  jvm_step X.here [X.here.top, hexec, hb, hdg, hmeth', hr, hnar]
  (try refine ⟨rfl, ?_⟩); (try refine ⟨rfl, ?_⟩)
  first | (intro acts; rw [hret _ acts rfl rfl rfl]) | rw [hret _ _ rfl rfl rfl]
  exact Steps.refl _
theorem va_callO {pc : Nat} {ls : Array Slot} {rest st0 : List Value} {A0 : Nat → Prop} {H0 : Heap} {mc ms : Nat} {free : Addr → Prop} {r1 : Option Value} {B : State → Prop} (hr : va_Run p l e0 R s m args below meth cd H locs cells slots mc ms (F0 m pc ls st0) rest (fun st oc t => oc = .returned r1 ∧ B t ∧ va_F A0 st t) free) (hS : va_S A0 H0 H locs) (hf : ∀ q, free q → A0 q)
    (kk : ∀ (t : State) (H1 : Heap) (locs1 : List Loc), t.heap = H1 → s.vm.Alike t.vm → B t → va_S A0 H0 H1 locs1 → W p l e0 R s m args below meth cd H1 locs1 (cells + mc) (slots + ms) Q (F0 m (pc + 3) ls (r1.toList ++ rest))) : W p l e0 R s m args below meth cd H locs cells slots Q (F0 m pc ls st0) := by
  intro T hT X
  obtain ⟨v, st₀, t, T', L, h0, X', hL, e1, e2, ⟨hv, hb, hz, hk⟩, st⟩ := hr T hT X
  cases hv
  rw [h0] at hz hk
  obtain ⟨t2, a1, b1⟩ := kk t T'.heap (locs ++ L) e1.symm (by rw [← e2]; exact X'.warmed.alike) hb
    ⟨Nat.le_trans hS.1 (by rw [e1]; exact hz), fun q h1 h2 => by rw [e1, hk q (Nat.lt_of_lt_of_le h1 hS.1) h2]; exact hS.2.1 q h1 h2, fun q hq => by
      rcases List.mem_append.mp hq with h | h
      · exact hS.2.2 q h
      · exact hf _ (hL q h)⟩ T' rfl X'
  exact ⟨t2, st t2 a1, b1⟩
end RN
theorem good_all {y : MethodName} {b : ByteArray} {n : Nat} {r : Option FieldType} (h : Cond.code y b n r ∈ lw_g) : GoodIn lw_g (Cond.code y b n r :: lw_g) := by
  intro w hw
  have hw : w ∈ lw_g := by
    rcases List.mem_cons.mp hw with rfl | hw
    · exact h
    · exact hw
  exact ⟨hw, good_of_word (List.mem_filter.mp hw).2⟩
theorem pop_spec : ∀ (n : Nat) (acc st as rest : List AV), pop n acc st = some (as, rest) → acc.reverse ++ st = as.reverse ++ rest ∧ as.length = acc.length + n
  | 0, acc, st, as, rest, h => by cases h; exact ⟨rfl, rfl⟩
  | n + 1, acc, [], as, rest, h => by cases h
  | n + 1, acc, x :: st, as, rest, h => by
    obtain ⟨h1, h2⟩ := pop_spec n (x :: acc) st as rest h
    refine ⟨?_, by simp at h2; omega⟩
    rw [← h1]
    simp
theorem VO.app {wl : List (Nat × Nat)} {l1 l2 : List AV} (h : VO wl (l1 ++ l2)) : VO wl l1 ∧ VO wl l2 := ⟨⟨fun r hr => h.1 r (List.mem_append_left _ hr), fun x hx => h.2 x (List.mem_append_left _ hx)⟩, ⟨fun r hr => h.1 r (List.mem_append_right _ hr), fun x hx => h.2 x (List.mem_append_right _ hx)⟩⟩
theorem VO.rev {wl : List (Nat × Nat)} {l : List AV} (h : VO wl l.reverse) : VO wl l := ⟨fun r hr => h.1 r (List.mem_reverse.mpr hr), fun x hx => h.2 x (List.mem_reverse.mpr hx)⟩
theorem wsm_sum (q : Nat → Nat → Nat) : ∀ l : List AV, ((l.map (cvv q)).map fun v => v.category).sum = wsm l
  | [] => rfl
  | x :: r => by
    simp only [List.map_cons, List.sum_cons, wsm_sum q r]
    cases x with
    | inl y => cases y <;> simp [wsm, cvv, Value.category] <;> omega
    | inr y => simp [wsm, cvv, Value.category]; omega
theorem lg_cons (v : Value) (vs : List Value) : lg_sl (v :: vs) = (if v.category = 2 then [.val v, .second] else [.val v]) ++ lg_sl vs := rfl
theorem lay_len (q : Nat → Nat → Nat) : ∀ l : List AV, (∀ x, Sum.inl (Value.double x) ∉ l) → (lg_sl (l.map (cvv q))).length = (lay1 l).length
  | [], _ => rfl
  | x :: r, hd => by
    have ih := lay_len q r (fun z hz => hd z (List.mem_cons_of_mem _ hz))
    show (lg_sl (cvv q x :: r.map (cvv q))).length = _
    rw [lg_cons, List.length_append, ih]
    generalize hN : (lay1 r).length = N
    cases x with
    | inl y =>
      cases y with
      | double z => exact absurd List.mem_cons_self (hd z)
      | _ => simp [lay1, cvv, Value.category, hN]; try omega
    | inr y => simp [lay1, cvv, Value.category, hN]; try omega
theorem lay_lvs (q : Nat → Nat → Nat) (n : Nat) : ∀ (l : List AV) (i : Nat), (∀ x, Sum.inl (Value.double x) ∉ l) → ∀ x ∈ lvs q i (lay1 l ++ List.replicate n av0), x ∈ lv_args i (l.map (cvv q))
  | [], i, _, x, hx => by
    exfalso
    have : ∀ (n i : Nat), x ∉ lvs q i (List.replicate n av0) := by
      intro n
      induction n with
      | zero => intro i h; cases h
      | succ n ih => intro i h; exact ih (i + 1) h
    exact this n i hx
  | a :: r, i, hd, x, hx => by
    have ih := fun j => lay_lvs q n r j (fun z hz => hd z (List.mem_cons_of_mem _ hz)) x
    simp only [List.map_cons, lv_args]
    cases a with
    | inl y =>
      cases y with
      | long z =>
        simp only [lay1, List.cons_append, lvs] at hx
        rcases List.mem_cons.mp hx with h | h
        · rw [h]; exact List.mem_cons_self
        · exact List.mem_cons_of_mem _ (by simpa [cvv, Value.category] using ih (i + 2) h)
      | double z => exact absurd List.mem_cons_self (hd z)
      | null =>
        simp only [lay1, List.cons_append, lvs] at hx
        exact List.mem_cons_of_mem _ (by simpa [cvv, Value.category] using ih (i + 1) hx)
      | int z =>
        simp only [lay1, List.cons_append, lvs] at hx
        rcases List.mem_cons.mp hx with h | h
        · rw [h]; exact List.mem_cons_self
        · exact List.mem_cons_of_mem _ (by simpa [cvv, Value.category] using ih (i + 1) h)
      | float z =>
        simp only [lay1, List.cons_append, lvs] at hx
        rcases List.mem_cons.mp hx with h | h
        · rw [h]; exact List.mem_cons_self
        · exact List.mem_cons_of_mem _ (by simpa [cvv, Value.category] using ih (i + 1) h)
      | ref z =>
        simp only [lay1, List.cons_append, lvs] at hx
        rcases List.mem_cons.mp hx with h | h
        · rw [h]; exact List.mem_cons_self
        · exact List.mem_cons_of_mem _ (by simpa [cvv, Value.category] using ih (i + 1) h)
      | retAddr z =>
        simp only [lay1, List.cons_append, lvs] at hx
        rcases List.mem_cons.mp hx with h | h
        · rw [h]; exact List.mem_cons_self
        · exact List.mem_cons_of_mem _ (by simpa [cvv, Value.category] using ih (i + 1) h)
    | inr y =>
      simp only [lay1, List.cons_append, lvs] at hx
      rcases List.mem_cons.mp hx with h | h
      · rw [h]; exact List.mem_cons_self
      · exact List.mem_cons_of_mem _ (by simpa [cvv, Value.category] using ih (i + 1) h)
theorem lay_VO {wl : List (Nat × Nat)} : ∀ {l : List AV}, VO wl l → VO wl (lay1 l)
  | [], _ => VO.nil
  | .inl (.long x) :: r, h => VO.long (VO.cons ⟨fun r hr => by simp at hr, fun y hy => by simp at hy⟩ (lay_VO h.tail))
  | .inl (.int x) :: r, h => VO.int (lay_VO h.tail)
  | .inl (.float x) :: r, h => VO.cons ⟨fun r hr => by simp at hr, fun y hy => by simp at hy⟩ (lay_VO h.tail)
  | .inl (.double x) :: r, h => absurd List.mem_cons_self (h.2 x)
  | .inl .null :: r, h => VO.cons ⟨fun r hr => by simp at hr, fun y hy => by simp at hy⟩ (lay_VO h.tail)
  | .inl (.ref x) :: r, h => VO.cons ⟨fun r hr => by simp at hr, fun y hy => by simp at hy⟩ (lay_VO h.tail)
  | .inl (.retAddr x) :: r, h => VO.cons ⟨fun r hr => by simp at hr, fun y hy => by simp at hy⟩ (lay_VO h.tail)
  | .inr x :: r, h => VO.ref h.hd (lay_VO h.tail)
theorem mkL_VO {wl : List (Nat × Nat)} {l : List AV} {n : Nat} (h : VO wl l) : VO wl (mkL n l) := by
  have h1 := lay_VO h
  refine ⟨fun r hr => ?_, fun x hx => ?_⟩
  · rcases List.mem_append.mp hr with e | e
    · exact h1.1 r e
    · cases List.eq_of_mem_replicate e
  · rcases List.mem_append.mp hx with e | e
    · exact h1.2 x e
    · cases List.eq_of_mem_replicate e
theorem mkL_len {l : List AV} {n : Nat} (h : (lay1 l).length ≤ n) : (mkL n l).length = n := by
  simp [mkL]; omega
set_option maxHeartbeats 4000000 in
/-- from a walk at the entry to the contract -/
theorem met_of {l : Launch} {dC : Nat → ClassId} {dI : Nat → Nat → Nat} {dA : Nat → ClassId} {q : Nat → Nat → Nat} {wl : List (Nat × Nat)} {A : Nat → Prop} {md : MD} {d : Nat} {as : List AV} {h h2 : AH} {r : Option Value} (hB : mdB md) (h0 : pcA md.2.2.2.2.2 0 = 0) (hv : VO wl as) (hl : (lay1 as).length ≤ md.2.2.2.1)
    (hat : ∀ (p : Program) (e0 : Env) (s : State) (m : MethodId) (args : Array Value) (below : List Frame) (meth : Method) (cd : Code), Cx p s m args meth cd dC dI dA md.1 md.2.2.1 md.2.2.2.1 md.2.2.2.2.1 → At_ p l e0 (rmD d) s m args below meth cd (MQ below (Qm dC dI dA q wl A r h2) args s 0 0 A) dC dI dA q wl A md.2.2.2.1 md.2.2.2.2.2 (0, mkL md.2.2.2.1 as, [], h)) :
    Met l md.2.1 (Cond.code md.2.1 md.2.2.1 md.2.2.2.1 md.2.2.2.2.1 :: lw_g) (rmD d) (Pm dC dI dA q wl A as h) (Qm dC dI dA q wl A r h2) 0 0 A := by
  refine va_MetF (cc := md.2.2.1) (maxL := md.2.2.2.1) (ret := md.2.2.2.2.1) hB.2.2.1 rfl ?_
  intro p e s m args below meth c s₁ B hml hp
  obtain ⟨rfl, hP, hK, hD, hN⟩ := hp
  have hts := atoms_spec (ws := Cond.code md.2.1 md.2.2.1 md.2.2.2.1 md.2.2.2.2.1 :: lw_g) B.pre
  have hown : s.vm.findClass md.2.1.cls = some m.cls := findClass_of_methodNamed B.named
  have hX : Cx p s m (as.map (cvv q)).toArray meth c dC dI dA md.1 md.2.2.1 md.2.2.2.1 md.2.2.2.2.1 := ⟨B.exec, B.bytes, hml, B.returns, B.notSynchronized, by rw [hB.2.2.2.2.1]; exact hown, fun w hw => hts w (List.mem_cons_of_mem _ hw), hK, hN⟩
  rw [lg_entry_eq]
  have hent := lv_entry (as.map (cvv q)) (n := md.2.2.2.1) (by rw [lay_len q as hv.2]; exact hl)
  have K := hat p e s m (as.map (cvv q)).toArray below meth c hX (mkL_VO hv) VO.nil (mkL_len hl) _ s.heap [] (lv_less hent (lay_lvs q _ as 0 hv.2)) ⟨hP, hD, va_S.rf⟩
  simp only [h0] at K
  exact K
