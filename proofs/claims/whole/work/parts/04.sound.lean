/-! ===== each row of the abstract machine is a step of the machine ===== -/
/-- the world at a point of a walk -/
def Wd (dC : Nat → ClassId) (dI : Nat → Nat → Nat) (dA : Nat → ClassId) (q : Nat → Nat → Nat) (wl : List (Nat × Nat)) (A : Nat → Prop) (H0 H : Heap) (locs : List Loc) (h : AH) : Prop :=
  va_P (dC, dI) vwCl (wsOf dA q wl h) H ∧ va_D A (wsOf dA q wl h) ∧ va_S A H0 H locs
def FLok (t : String × Nat × Nat × Nat) : Prop := ∃ r : vw_C, vwCl[t.2.2.1]? = some r ∧ t.2.2.2 < r.2.2 ∧ Cond.fieldLink t.1 t.2.1 r.1 (r.2.1 t.2.2.2).2.1 (r.2.1 t.2.2.2).2.2.1 ∈ lw_g
theorem u_gd {C : String} {T : u_T} {N : Nat} (h : ∀ w ∈ u_ws C T N, w ∈ lw_tbl) : ∀ w ∈ u_ws C T N, w ∈ lw_g := by
  intro w hw
  refine lw_gi (h w hw) ?_
  obtain ⟨k, -, rfl⟩ := List.mem_map.mp hw
  unfold u_lay
  split <;> rfl
/-- what is known of each of the classes -/
theorem cls_ok : ∀ (ci : Nat) (r : vw_C), vwCl[ci]? = some r → (∀ w ∈ u_ws r.1 r.2.1 r.2.2, w ∈ lw_g) ∧ (∃ ty0 : Nat → FieldType, ∀ k, k < r.2.2 → parseFieldDescriptor (r.2.1 k).2.2.1 = some (ty0 k)) ∧ (∀ a, a < r.2.2 → ∀ b, b < r.2.2 → a ≠ b → (r.2.1 a).2.1 ≠ (r.2.1 b).2.1) ∧ ∀ k, (r.2.1 k).1 = r.1 := by
  intro ci r h
  match ci, h with
  | 0, h => cases h; exact ⟨u_gd am_in0, ⟨_, tyX0_ok⟩, nmX0, fun k => by show (TX0 k).1 = RX0; unfold TX0; split <;> rfl⟩
  | 1, h => cases h; exact ⟨u_gd am_in1, ⟨_, tyX1_ok⟩, nmX1, fun k => by show (TX1 k).1 = RX1; unfold TX1; split <;> rfl⟩
  | 2, h => cases h; exact ⟨u_gd am_in2, ⟨_, tyX2_ok⟩, nmX2, fun k => by show (TX2 k).1 = RX2; unfold TX2; split <;> rfl⟩
  | 3, h => cases h; exact ⟨u_gd am_in3, ⟨_, tyX3_ok⟩, nmX3, fun k => by show (TX3 k).1 = RX3; unfold TX3; split <;> rfl⟩
  | 4, h => cases h; exact ⟨u_gd am_in4, ⟨_, tyX4_ok⟩, nmX4, fun k => by show (TX4 k).1 = RX4; unfold TX4; split <;> rfl⟩
  | 5, h => cases h; exact ⟨u_gd am_in5, ⟨_, tyX5_ok⟩, nmX5, fun k => by show (TX5 k).1 = RX5; unfold TX5; split <;> rfl⟩
  | 6, h => cases h; exact ⟨u_gd am_in6, ⟨_, tyX6_ok⟩, nmX6, fun k => by show (TX6 k).1 = RX6; unfold TX6; split <;> rfl⟩
  | 7, h => cases h; exact ⟨u_gd am_in7, ⟨_, tyX7_ok⟩, nmX7, fun k => by show (TX7 k).1 = RX7; unfold TX7; split <;> rfl⟩
  | 8, h => cases h; exact ⟨u_gd am_in8, ⟨_, tyX8_ok⟩, nmX8, fun k => by show (TX8 k).1 = RX8; unfold TX8; split <;> rfl⟩
  | 9, h => cases h; exact ⟨u_gd am_in9, ⟨_, tyX9_ok⟩, nmX9, fun k => by show (TX9 k).1 = RX9; unfold TX9; split <;> rfl⟩
  | 10, h => cases h; exact ⟨u_gd am_in10, ⟨_, tyX10_ok⟩, nmX10, fun k => by show (TX10 k).1 = RX10; unfold TX10; split <;> rfl⟩
  | 11, h => cases h; exact ⟨u_gd am_in11, ⟨_, tyX11_ok⟩, nmX11, fun k => by show (TX11 k).1 = RX11; unfold TX11; split <;> rfl⟩
  | 12, h => cases h; exact ⟨u_gd am_in12, ⟨_, tyX12_ok⟩, nmX12, fun k => by show (TX12 k).1 = RX12; unfold TX12; split <;> rfl⟩
  | n + 13, h => cases h
def tyC (t : Nat) : FieldType := match t with
  | 0 => .int
  | 1 => .long
  | _ => .boolean
def kdB (e : KE) : Bool := match e with
  | .inr (ci, fs) => match vwCl[ci]? with
    | some (_, T, N) => decide (fs.length = N) && (List.range N).all (fun b => match fnth fs b with
      | .inl t => decide (t < 3) && decide (parseFieldDescriptor (T b).2.2.1 = some (tyC t))
      | .inr _ => true)
    | none => false
  | .inl (t, _, _) => decide (t < 7)
theorem kd_all : KD.all (fun x => kdB x.2) = true := by decide +kernel
theorem kdg_mem {l : List (Nat × KE)} {k : Nat} : (∃ c, (c, kdg l k) ∈ l) ∨ kdg l k = .inl (9, 0, 0) := by
  induction l generalizing k with
  | nil => exact Or.inr rfl
  | cons x r ih =>
    cases k with
    | zero => exact Or.inl ⟨x.1, List.mem_cons_self⟩
    | succ k =>
      rcases ih (k := k) with ⟨c, h⟩ | h
      · exact Or.inl ⟨c, List.mem_cons_of_mem _ h⟩
      · exact Or.inr h
theorem kd_obj {k ci : Nat} {fs : List FE} (h : kd k = .inr (ci, fs)) : kdB (.inr (ci, fs)) = true := by
  rcases kdg_mem (l := KD) (k := k) with ⟨c, hc⟩ | hc
  · have := List.all_eq_true.mp kd_all _ hc
    rwa [show kdg KD k = .inr (ci, fs) from h] at this
  · rw [show kdg KD k = .inr (ci, fs) from h] at hc
    cases hc
theorem kd_field {k ci b t : Nat} {fs : List FE} {r : vw_C} (h : kd k = .inr (ci, fs)) (hr : vwCl[ci]? = some r) (hb : b < r.2.2) (hf : fnth fs b = .inl t) : t < 3 ∧ parseFieldDescriptor (r.2.1 b).2.2.1 = some (tyC t) := by
  have h1 := kd_obj h
  unfold kdB at h1
  simp only [hr, Bool.and_eq_true, decide_eq_true_eq] at h1
  have h2 := List.all_eq_true.mp h1.2 b (List.mem_range.mpr hb)
  simpa [hf] using h2
theorem kd_len {k ci : Nat} {fs : List FE} {r : vw_C} (h : kd k = .inr (ci, fs)) (hr : vwCl[ci]? = some r) : fs.length = r.2.2 := by
  have h1 := kd_obj h
  unfold kdB at h1
  simp only [hr, Bool.and_eq_true, decide_eq_true_eq] at h1
  exact h1.1
theorem inb_vp {j : Int32} {n : Nat} (h : inb j n = true) : vp_in j n := by
  unfold inb at h
  simp only [Bool.and_eq_true, Bool.not_eq_true', decide_eq_false_iff_not, decide_eq_true_eq] at h
  exact fun q => q.elim h.1 (fun q => Nat.not_le.mpr h.2 q)
section SN
variable {p : Program} {l : Launch} {e0 : Env} {R : Room} {s : State} {m : MethodId} {args : Array Value} {below : List Frame} {meth : Method} {cd : Code} {Q : State → Prop}
variable {dC : Nat → ClassId} {dI : Nat → Nat → Nat} {dA : Nat → ClassId} {q : Nat → Nat → Nat} {wl : List (Nat × Nat)} {A : Nat → Prop} {nL : Nat} {bytes : ByteArray} {own : String} {C : List IE}
/-- at a point: from every frame and heap that hold it the walk comes to Q -/
def At_ (p : Program) (l : Launch) (e0 : Env) (R : Room) (s : State) (m : MethodId) (args : Array Value) (below : List Frame) (meth : Method) (cd : Code) (Q : State → Prop) (dC : Nat → ClassId) (dI : Nat → Nat → Nat) (dA : Nat → ClassId) (q : Nat → Nat → Nat) (wl : List (Nat × Nat)) (A : Nat → Prop) (nL : Nat) (C : List IE) (x : Cf) : Prop :=
  VO wl x.2.1 → VO wl x.2.2.1 → x.2.1.length = nL → ∀ (ls : Array Slot) (H : Heap) (locs : List Loc), lv_has ls nL (lvs q 0 x.2.1) → Wd dC dI dA q wl A s.heap H locs x.2.2.2 → W p l e0 R s m args below meth cd H locs 0 0 Q (F0 m (pcA C x.1) ls (x.2.2.1.map (cvv q)))
/-- what a method's walk knows -/
def Cx (p : Program) (s : State) (m : MethodId) (args : Array Value) (meth : Method) (cd : Code) (dC : Nat → ClassId) (dI : Nat → Nat → Nat) (dA : Nat → ClassId) (own : String) (bytes : ByteArray) (nL : Nat) (ret : Option FieldType) : Prop :=
  p.tables.exec = Jvm.exec ∧ cd.code = bytes ∧ cd.maxLocals = nL ∧ meth.sig.returnType = ret ∧ meth.locks = false ∧ s.vm.findClass own = some m.cls ∧ (∀ w ∈ lw_g, w.before args s = true) ∧ va_K (dC, dI) vwCl (tysOf dA) s ∧ ∀ t ∈ NW, va_Nw (.methodLinkNest t.1 t.2.1 t.2.2.1 t.2.2.2) s
variable {ret : Option FieldType} {MT : List MD} {FL ML : FLT} {CI : CIT} {CJ : CJT}
variable {pc ln a b c e ix : Nat} {ins : Instr} {v : Int32} {w : Int64} {ts : List (Int32 × Nat)} {ks : List Nat} {L st : List AV} {h : AH} {y : Cf}
set_option maxHeartbeats 2000000 in
theorem sn_0 (X : Cx p s m args meth cd dC dI dA own bytes nL ret) (hCI : ∀ t ∈ CI, Cond.constant t.1 t.2.1 t.2.2 ∈ lw_g) (hd : decode bytes (pcA C ix) = .ok (ins, ln)) (ho : okO MT FL ML CI CJ own C ix (pc, ln, 0, ins, a, b, c, e, v, w, ts, ks) = true) (hn : pcA C (ix + 1) = pcA C ix + ln)
    (hs : stepI 0 a b c e v w ts ix L st h = some y) (hy : At_ p l e0 R s m args below meth cd Q dC dI dA q wl A nL C y) : At_ p l e0 R s m args below meth cd Q dC dI dA q wl A nL C (ix, L, st, h) := by
  obtain ⟨hx, hb, hml, hr, hlk, hown, hts, hK, hNW⟩ := X
  cases hs
  intro hL hst hlen ls H locs hl hw
  have K := hy hL (VO.int hst) hlen ls H locs hl hw
  simp only [hn] at K
  simp only [okO] at ho
  split at ho
  · simp only [decide_eq_true_eq] at ho
    obtain ⟨rfl, hv⟩ := ho
    exact lv_iconst hx hb hd hv K
  · simp only [decide_eq_true_eq] at ho
    obtain ⟨rfl, hv⟩ := ho
    exact lv_bipush hx hb hd hv K
  · simp only [decide_eq_true_eq] at ho
    obtain ⟨rfl, hv⟩ := ho
    exact lv_sipush hx hb hd hv K
  · simp only [Bool.and_eq_true, decide_eq_true_eq] at ho
    obtain ⟨rfl, hv⟩ := ho
    exact lv_ldc hx hb hown (hts _ (hCI _ (List.mem_of_getElem? hv))) hd K
  · simp only [Bool.and_eq_true, decide_eq_true_eq] at ho
    obtain ⟨rfl, hv⟩ := ho
    exact lv_ldcw hx hb hown (hts _ (hCI _ (List.mem_of_getElem? hv))) hd K
  · cases ho
set_option maxHeartbeats 2000000 in
theorem sn_1 (X : Cx p s m args meth cd dC dI dA own bytes nL ret) (hCJ : ∀ t ∈ CJ, Cond.constantLong t.1 t.2.1 t.2.2 ∈ lw_g) (hd : decode bytes (pcA C ix) = .ok (ins, ln)) (ho : okO MT FL ML CI CJ own C ix (pc, ln, 1, ins, a, b, c, e, v, w, ts, ks) = true) (hn : pcA C (ix + 1) = pcA C ix + ln)
    (hs : stepI 1 a b c e v w ts ix L st h = some y) (hy : At_ p l e0 R s m args below meth cd Q dC dI dA q wl A nL C y) : At_ p l e0 R s m args below meth cd Q dC dI dA q wl A nL C (ix, L, st, h) := by
  obtain ⟨hx, hb, hml, hr, hlk, hown, hts, hK, hNW⟩ := X
  cases hs
  intro hL hst hlen ls H locs hl hw
  have K := hy hL (VO.long hst) hlen ls H locs hl hw
  simp only [hn] at K
  simp only [okO] at ho
  split at ho
  · simp only [decide_eq_true_eq] at ho
    obtain ⟨rfl, hv⟩ := ho
    exact lv_lconst hx hb hd hv K
  · simp only [Bool.and_eq_true, decide_eq_true_eq] at ho
    obtain ⟨rfl, hv⟩ := ho
    exact lv_ldc2 hx hb hown (hts _ (hCJ _ (List.mem_of_getElem? hv))) hd K
  · cases ho
set_option maxHeartbeats 2000000 in
theorem sn_2 (X : Cx p s m args meth cd dC dI dA own bytes nL ret) (hd : decode bytes (pcA C ix) = .ok (ins, ln)) (ho : okO MT FL ML CI CJ own C ix (pc, ln, 2, ins, a, b, c, e, v, w, ts, ks) = true) (hn : pcA C (ix + 1) = pcA C ix + ln)
    (hs : stepI 2 a b c e v w ts ix L st h = some y) (hy : At_ p l e0 R s m args below meth cd Q dC dI dA q wl A nL C y) : At_ p l e0 R s m args below meth cd Q dC dI dA q wl A nL C (ix, L, st, h) := by
  obtain ⟨hx, hb, hml, hr, hlk, hown, hts, hK, hNW⟩ := X
  simp only [stepI] at hs
  split at hs
  · rename_i x hx0
    cases hs
    intro hL hst hlen ls H locs hl hw
    have K := hy hL (VO.int hst) hlen ls H locs hl hw
    have hv0 := lv_nth hl (show nth L a ≠ av0 by rw [hx0]; simp)
    rw [hx0] at hv0
    simp only [hn] at K
    simp only [okO] at ho
    split at ho
    · simp only [decide_eq_true_eq] at ho
      obtain ⟨rfl, hv⟩ := ho
      exact lv_iload_n hx hb hd hv hv0 K
    · simp only [decide_eq_true_eq] at ho
      obtain ⟨rfl, rfl⟩ := ho
      exact lv_iload hx hb hd hv0 K
    · cases ho
  · cases hs
-- GENERATED FROM HERE
set_option maxHeartbeats 4000000 in
theorem sn_3 (X : Cx p s m args meth cd dC dI dA own bytes nL ret) (hd : decode bytes (pcA C ix) = .ok (ins, ln)) (ho : okO MT FL ML CI CJ own C ix (pcA C ix, ln, 3, ins, a, b, c, e, v, w, ts, ks) = true) (hn : pcA C (ix + 1) = pcA C ix + ln)
    (hs : stepI 3 a b c e v w ts ix L st h = some y) (hy : At_ p l e0 R s m args below meth cd Q dC dI dA q wl A nL C y) : At_ p l e0 R s m args below meth cd Q dC dI dA q wl A nL C (ix, L, st, h) := by
  obtain ⟨hx, hb, hml, hr, hlk, hown, hts, hK, hNW⟩ := X
  simp only [stepI] at hs
  split at hs
  · rename_i x hx0
    cases hs
    intro hL hst hlen ls H locs hl hw
    have K := hy hL (VO.long hst) hlen ls H locs hl hw
    have hv0 := lv_nth hl (show nth L a ≠ av0 by rw [hx0]; simp)
    rw [hx0] at hv0
    simp only [hn] at K
    simp only [okO] at ho
    split at ho
    · simp only [decide_eq_true_eq] at ho
      obtain ⟨rfl, hv⟩ := ho
      exact lv_lload_n hx hb hd hv hv0 K
    · simp only [decide_eq_true_eq] at ho
      obtain ⟨rfl, rfl⟩ := ho
      exact lv_lload hx hb hd hv0 K
    · cases ho
  · cases hs

set_option maxHeartbeats 4000000 in
theorem sn_4 (X : Cx p s m args meth cd dC dI dA own bytes nL ret) (hd : decode bytes (pcA C ix) = .ok (ins, ln)) (ho : okO MT FL ML CI CJ own C ix (pcA C ix, ln, 4, ins, a, b, c, e, v, w, ts, ks) = true) (hn : pcA C (ix + 1) = pcA C ix + ln)
    (hs : stepI 4 a b c e v w ts ix L st h = some y) (hy : At_ p l e0 R s m args below meth cd Q dC dI dA q wl A nL C y) : At_ p l e0 R s m args below meth cd Q dC dI dA q wl A nL C (ix, L, st, h) := by
  obtain ⟨hx, hb, hml, hr, hlk, hown, hts, hK, hNW⟩ := X
  simp only [stepI] at hs
  split at hs
  · rename_i x hx0
    cases hs
    intro hL hst hlen ls H locs hl hw
    have K := hy hL (VO.ref (hL.1 _ (by rw [← hx0]; exact nth_mem (by rw [hx0]; simp))) hst) hlen ls H locs hl hw
    have hv0 := lv_nth hl (show nth L a ≠ av0 by rw [hx0]; simp)
    rw [hx0] at hv0
    simp only [hn] at K
    simp only [okO] at ho
    split at ho
    · simp only [decide_eq_true_eq] at ho
      obtain ⟨rfl, hv⟩ := ho
      exact lv_aload_n hx hb hd hv hv0 K
    · simp only [decide_eq_true_eq] at ho
      obtain ⟨rfl, rfl⟩ := ho
      exact lv_aload hx hb hd hv0 K
    · cases ho
  · cases hs

set_option maxHeartbeats 4000000 in
theorem sn_5 (X : Cx p s m args meth cd dC dI dA own bytes nL ret) (ha : a < nL) (hd : decode bytes (pcA C ix) = .ok (ins, ln)) (ho : okO MT FL ML CI CJ own C ix (pcA C ix, ln, 5, ins, a, b, c, e, v, w, ts, ks) = true) (hn : pcA C (ix + 1) = pcA C ix + ln)
    (hs : stepI 5 a b c e v w ts ix L st h = some y) (hy : At_ p l e0 R s m args below meth cd Q dC dI dA q wl A nL C y) : At_ p l e0 R s m args below meth cd Q dC dI dA q wl A nL C (ix, L, st, h) := by
  obtain ⟨hx, hb, hml, hr, hlk, hown, hts, hK, hNW⟩ := X
  simp only [stepI] at hs
  split at hs
  · rename_i x r
    cases hs
    intro hL hst hlen ls H locs hl hw
    simp only [okO] at ho
    split at ho
    · simp only [decide_eq_true_eq] at ho
      obtain ⟨rfl, hv⟩ := ho
      refine lv_istore_n hx hb hd hv hl ha rfl (fun ls hl => ?_)
      have K := hy (VO.st1 hL (VO.int VO.nil)) hst.tail (by rw [← hlen]; exact st1_len _ _ _) ls H locs (lv_st1 (q := q) hL.2 hl) hw
      simp only [hn] at K
      exact K
    · simp only [decide_eq_true_eq] at ho
      obtain ⟨rfl, rfl⟩ := ho
      refine lv_istore hx hb hd hl ha rfl (fun ls hl => ?_)
      have K := hy (VO.st1 hL (VO.int VO.nil)) hst.tail (by rw [← hlen]; exact st1_len _ _ _) ls H locs (lv_st1 (q := q) hL.2 hl) hw
      simp only [hn] at K
      exact K
    · cases ho
  · cases hs

set_option maxHeartbeats 4000000 in
theorem sn_6 (X : Cx p s m args meth cd dC dI dA own bytes nL ret) (ha : a + 1 < nL) (hd : decode bytes (pcA C ix) = .ok (ins, ln)) (ho : okO MT FL ML CI CJ own C ix (pcA C ix, ln, 6, ins, a, b, c, e, v, w, ts, ks) = true) (hn : pcA C (ix + 1) = pcA C ix + ln)
    (hs : stepI 6 a b c e v w ts ix L st h = some y) (hy : At_ p l e0 R s m args below meth cd Q dC dI dA q wl A nL C y) : At_ p l e0 R s m args below meth cd Q dC dI dA q wl A nL C (ix, L, st, h) := by
  obtain ⟨hx, hb, hml, hr, hlk, hown, hts, hK, hNW⟩ := X
  simp only [stepI] at hs
  split at hs
  · rename_i x r
    cases hs
    intro hL hst hlen ls H locs hl hw
    simp only [okO] at ho
    split at ho
    · simp only [decide_eq_true_eq] at ho
      obtain ⟨rfl, hv⟩ := ho
      refine lv_lstore_n hx hb hd hv hl ha rfl (fun ls hl => ?_)
      have K := hy (VO.st2 hL (VO.long VO.nil)) hst.tail (by rw [← hlen]; exact st2_len _ _ _) ls H locs (lv_st2 (q := q) hL.2 hl) hw
      simp only [hn] at K
      exact K
    · simp only [decide_eq_true_eq] at ho
      obtain ⟨rfl, rfl⟩ := ho
      refine lv_lstore hx hb hd hl ha rfl (fun ls hl => ?_)
      have K := hy (VO.st2 hL (VO.long VO.nil)) hst.tail (by rw [← hlen]; exact st2_len _ _ _) ls H locs (lv_st2 (q := q) hL.2 hl) hw
      simp only [hn] at K
      exact K
    · cases ho
  · cases hs

set_option maxHeartbeats 4000000 in
theorem sn_7 (X : Cx p s m args meth cd dC dI dA own bytes nL ret) (ha : a < nL) (hd : decode bytes (pcA C ix) = .ok (ins, ln)) (ho : okO MT FL ML CI CJ own C ix (pcA C ix, ln, 7, ins, a, b, c, e, v, w, ts, ks) = true) (hn : pcA C (ix + 1) = pcA C ix + ln)
    (hs : stepI 7 a b c e v w ts ix L st h = some y) (hy : At_ p l e0 R s m args below meth cd Q dC dI dA q wl A nL C y) : At_ p l e0 R s m args below meth cd Q dC dI dA q wl A nL C (ix, L, st, h) := by
  obtain ⟨hx, hb, hml, hr, hlk, hown, hts, hK, hNW⟩ := X
  simp only [stepI] at hs
  split at hs
  · rename_i x r
    cases hs
    intro hL hst hlen ls H locs hl hw
    simp only [okO] at ho
    split at ho
    · simp only [decide_eq_true_eq] at ho
      obtain ⟨rfl, hv⟩ := ho
      refine lv_astore_n hx hb hd hv hl ha rfl (fun ls hl => ?_)
      have K := hy (VO.st1 hL (VO.ref hst.hd VO.nil)) hst.tail (by rw [← hlen]; exact st1_len _ _ _) ls H locs (lv_st1 (q := q) hL.2 hl) hw
      simp only [hn] at K
      exact K
    · simp only [decide_eq_true_eq] at ho
      obtain ⟨rfl, rfl⟩ := ho
      refine lv_astore hx hb hd hl ha rfl (fun ls hl => ?_)
      have K := hy (VO.st1 hL (VO.ref hst.hd VO.nil)) hst.tail (by rw [← hlen]; exact st1_len _ _ _) ls H locs (lv_st1 (q := q) hL.2 hl) hw
      simp only [hn] at K
      exact K
    · cases ho
  · cases hs

set_option maxHeartbeats 4000000 in
theorem sn_8 (X : Cx p s m args meth cd dC dI dA own bytes nL ret) (ha : a < nL) (hd : decode bytes (pcA C ix) = .ok (ins, ln)) (ho : okO MT FL ML CI CJ own C ix (pcA C ix, ln, 8, ins, a, b, c, e, v, w, ts, ks) = true) (hn : pcA C (ix + 1) = pcA C ix + ln)
    (hs : stepI 8 a b c e v w ts ix L st h = some y) (hy : At_ p l e0 R s m args below meth cd Q dC dI dA q wl A nL C y) : At_ p l e0 R s m args below meth cd Q dC dI dA q wl A nL C (ix, L, st, h) := by
  obtain ⟨hx, hb, hml, hr, hlk, hown, hts, hK, hNW⟩ := X
  simp only [stepI] at hs
  split at hs
  · rename_i x hx0
    cases hs
    intro hL hst hlen ls H locs hl hw
    simp only [okO] at ho
    split at ho
    · simp only [decide_eq_true_eq] at ho
      obtain ⟨rfl, rfl, hv⟩ := ho
      have hm := lvs_of (q := q) L 0 _ (show nth L _ ≠ av0 by rw [hx0]; simp)
      rw [hx0, Nat.zero_add] at hm
      obtain ⟨k, hk⟩ := List.getElem?_of_mem hm
      refine lv_iinc hx hb hd hl (k := k) hk (by rw [hv]) ha rfl (fun ls hl => ?_)
      have K := hy (VO.st1 hL (VO.int VO.nil)) hst (by rw [← hlen]; exact st1_len _ _ _) ls H locs (lv_st1 (q := q) hL.2 hl) hw
      simp only [hn] at K
      exact K
    · cases ho
  · cases hs

set_option maxHeartbeats 4000000 in
theorem sn_9 (X : Cx p s m args meth cd dC dI dA own bytes nL ret) (hd : decode bytes (pcA C ix) = .ok (ins, ln)) (ho : okO MT FL ML CI CJ own C ix (pcA C ix, ln, 9, ins, a, b, c, e, v, w, ts, ks) = true) (hn : pcA C (ix + 1) = pcA C ix + ln)
    (hs : stepI 9 a b c e v w ts ix L st h = some y) (hy : At_ p l e0 R s m args below meth cd Q dC dI dA q wl A nL C y) : At_ p l e0 R s m args below meth cd Q dC dI dA q wl A nL C (ix, L, st, h) := by
  obtain ⟨hx, hb, hml, hr, hlk, hown, hts, hK, hNW⟩ := X
  simp only [stepI] at hs
  split at hs
  · rename_i y0 x r
    cases hs
    intro hL hst hlen ls H locs hl hw
    have K := hy hL (VO.int hst.tail.tail) hlen ls H locs hl hw
    simp only [hn] at K
    simp only [okO, decide_eq_true_eq] at ho
    obtain ⟨rfl, hi⟩ := ho
    match a, hi, K with
    | 0, hi, K => subst hi; exact lv_iadd hx hb hd K
    | 1, hi, K => subst hi; exact lv_isub hx hb hd K
    | 2, hi, K => subst hi; exact lv_imul hx hb hd K
    | 3, hi, K => subst hi; exact lv_iand hx hb hd K
    | 4, hi, K => subst hi; exact lv_ior hx hb hd K
    | 5, hi, K => subst hi; exact lv_ixor hx hb hd K
    | 6, hi, K => subst hi; exact lv_ishl hx hb hd K
    | 7, hi, K => subst hi; exact lv_ishr hx hb hd K
    | n + 8, hi, K => subst hi; exact lv_iushr hx hb hd rfl K
  · cases hs

set_option maxHeartbeats 4000000 in
theorem sn_10 (X : Cx p s m args meth cd dC dI dA own bytes nL ret) (hd : decode bytes (pcA C ix) = .ok (ins, ln)) (ho : okO MT FL ML CI CJ own C ix (pcA C ix, ln, 10, ins, a, b, c, e, v, w, ts, ks) = true) (hn : pcA C (ix + 1) = pcA C ix + ln)
    (hs : stepI 10 a b c e v w ts ix L st h = some y) (hy : At_ p l e0 R s m args below meth cd Q dC dI dA q wl A nL C y) : At_ p l e0 R s m args below meth cd Q dC dI dA q wl A nL C (ix, L, st, h) := by
  obtain ⟨hx, hb, hml, hr, hlk, hown, hts, hK, hNW⟩ := X
  simp only [stepI] at hs
  split at hs
  · rename_i y0 x r
    split at hs
    · cases hs
    · rename_i hne
      cases hs
      intro hL hst hlen ls H locs hl hw
      have K := hy hL (VO.int hst.tail.tail) hlen ls H locs hl hw
      simp only [hn] at K
      simp only [okO, decide_eq_true_eq] at ho
      obtain ⟨rfl, rfl⟩ := ho
      exact lv_idiv hx hb hd hne K
  · cases hs

set_option maxHeartbeats 4000000 in
theorem sn_11 (X : Cx p s m args meth cd dC dI dA own bytes nL ret) (hd : decode bytes (pcA C ix) = .ok (ins, ln)) (ho : okO MT FL ML CI CJ own C ix (pcA C ix, ln, 11, ins, a, b, c, e, v, w, ts, ks) = true) (hn : pcA C (ix + 1) = pcA C ix + ln)
    (hs : stepI 11 a b c e v w ts ix L st h = some y) (hy : At_ p l e0 R s m args below meth cd Q dC dI dA q wl A nL C y) : At_ p l e0 R s m args below meth cd Q dC dI dA q wl A nL C (ix, L, st, h) := by
  obtain ⟨hx, hb, hml, hr, hlk, hown, hts, hK, hNW⟩ := X
  simp only [stepI] at hs
  split at hs
  · rename_i y0 x r
    split at hs
    · cases hs
    · rename_i hne
      cases hs
      intro hL hst hlen ls H locs hl hw
      have K := hy hL (VO.int hst.tail.tail) hlen ls H locs hl hw
      simp only [hn] at K
      simp only [okO, decide_eq_true_eq] at ho
      obtain ⟨rfl, rfl⟩ := ho
      exact lv_irem hx hb hd hne K
  · cases hs

set_option maxHeartbeats 4000000 in
theorem sn_13 (X : Cx p s m args meth cd dC dI dA own bytes nL ret) (hd : decode bytes (pcA C ix) = .ok (ins, ln)) (ho : okO MT FL ML CI CJ own C ix (pcA C ix, ln, 13, ins, a, b, c, e, v, w, ts, ks) = true) (hn : pcA C (ix + 1) = pcA C ix + ln)
    (hs : stepI 13 a b c e v w ts ix L st h = some y) (hy : At_ p l e0 R s m args below meth cd Q dC dI dA q wl A nL C y) : At_ p l e0 R s m args below meth cd Q dC dI dA q wl A nL C (ix, L, st, h) := by
  obtain ⟨hx, hb, hml, hr, hlk, hown, hts, hK, hNW⟩ := X
  simp only [stepI] at hs
  split at hs
  · rename_i y0 x r
    split at hs
    · cases hs
    · rename_i hne
      cases hs
      intro hL hst hlen ls H locs hl hw
      have K := hy hL (VO.long hst.tail.tail) hlen ls H locs hl hw
      simp only [hn] at K
      simp only [okO, decide_eq_true_eq] at ho
      obtain ⟨rfl, rfl⟩ := ho
      exact lv_ldiv hx hb hd hne K
  · cases hs

set_option maxHeartbeats 4000000 in
theorem sn_14 (X : Cx p s m args meth cd dC dI dA own bytes nL ret) (hd : decode bytes (pcA C ix) = .ok (ins, ln)) (ho : okO MT FL ML CI CJ own C ix (pcA C ix, ln, 14, ins, a, b, c, e, v, w, ts, ks) = true) (hn : pcA C (ix + 1) = pcA C ix + ln)
    (hs : stepI 14 a b c e v w ts ix L st h = some y) (hy : At_ p l e0 R s m args below meth cd Q dC dI dA q wl A nL C y) : At_ p l e0 R s m args below meth cd Q dC dI dA q wl A nL C (ix, L, st, h) := by
  obtain ⟨hx, hb, hml, hr, hlk, hown, hts, hK, hNW⟩ := X
  simp only [stepI] at hs
  split at hs
  · rename_i y0 x r
    split at hs
    · cases hs
    · rename_i hne
      cases hs
      intro hL hst hlen ls H locs hl hw
      have K := hy hL (VO.long hst.tail.tail) hlen ls H locs hl hw
      simp only [hn] at K
      simp only [okO, decide_eq_true_eq] at ho
      obtain ⟨rfl, rfl⟩ := ho
      exact lv_lrem hx hb hd hne K
  · cases hs

set_option maxHeartbeats 4000000 in
theorem sn_12 (X : Cx p s m args meth cd dC dI dA own bytes nL ret) (hd : decode bytes (pcA C ix) = .ok (ins, ln)) (ho : okO MT FL ML CI CJ own C ix (pcA C ix, ln, 12, ins, a, b, c, e, v, w, ts, ks) = true) (hn : pcA C (ix + 1) = pcA C ix + ln)
    (hs : stepI 12 a b c e v w ts ix L st h = some y) (hy : At_ p l e0 R s m args below meth cd Q dC dI dA q wl A nL C y) : At_ p l e0 R s m args below meth cd Q dC dI dA q wl A nL C (ix, L, st, h) := by
  obtain ⟨hx, hb, hml, hr, hlk, hown, hts, hK, hNW⟩ := X
  simp only [stepI] at hs
  split at hs
  · rename_i y0 x r
    cases hs
    intro hL hst hlen ls H locs hl hw
    have K := hy hL (VO.long hst.tail.tail) hlen ls H locs hl hw
    simp only [hn] at K
    simp only [okO, decide_eq_true_eq] at ho
    obtain ⟨rfl, hi⟩ := ho
    match a, hi, K with
    | 0, hi, K => subst hi; exact lv_ladd hx hb hd K
    | 1, hi, K => subst hi; exact lv_lsub hx hb hd K
    | n + 2, hi, K => subst hi; exact lv_lmul hx hb hd K
  · cases hs

set_option maxHeartbeats 4000000 in
theorem sn_15 (X : Cx p s m args meth cd dC dI dA own bytes nL ret) (hd : decode bytes (pcA C ix) = .ok (ins, ln)) (ho : okO MT FL ML CI CJ own C ix (pcA C ix, ln, 15, ins, a, b, c, e, v, w, ts, ks) = true) (hn : pcA C (ix + 1) = pcA C ix + ln)
    (hs : stepI 15 a b c e v w ts ix L st h = some y) (hy : At_ p l e0 R s m args below meth cd Q dC dI dA q wl A nL C y) : At_ p l e0 R s m args below meth cd Q dC dI dA q wl A nL C (ix, L, st, h) := by
  obtain ⟨hx, hb, hml, hr, hlk, hown, hts, hK, hNW⟩ := X
  simp only [stepI] at hs
  split at hs
  · rename_i x r
    cases hs
    intro hL hst hlen ls H locs hl hw
    have K := hy hL (VO.long hst.tail) hlen ls H locs hl hw
    simp only [hn] at K
    simp only [okO, decide_eq_true_eq] at ho
    obtain ⟨rfl, rfl⟩ := ho
    exact lv_i2l hx hb hd rfl K
  · cases hs

set_option maxHeartbeats 4000000 in
theorem sn_16 (X : Cx p s m args meth cd dC dI dA own bytes nL ret) (hd : decode bytes (pcA C ix) = .ok (ins, ln)) (ho : okO MT FL ML CI CJ own C ix (pcA C ix, ln, 16, ins, a, b, c, e, v, w, ts, ks) = true) (hn : pcA C (ix + 1) = pcA C ix + ln)
    (hs : stepI 16 a b c e v w ts ix L st h = some y) (hy : At_ p l e0 R s m args below meth cd Q dC dI dA q wl A nL C y) : At_ p l e0 R s m args below meth cd Q dC dI dA q wl A nL C (ix, L, st, h) := by
  obtain ⟨hx, hb, hml, hr, hlk, hown, hts, hK, hNW⟩ := X
  simp only [stepI] at hs
  split at hs
  · rename_i x r
    cases hs
    intro hL hst hlen ls H locs hl hw
    have K := hy hL (VO.int hst.tail) hlen ls H locs hl hw
    simp only [hn] at K
    simp only [okO, decide_eq_true_eq] at ho
    obtain ⟨rfl, rfl⟩ := ho
    exact lv_l2i hx hb hd rfl K
  · cases hs

set_option maxHeartbeats 4000000 in
theorem sn_17 (X : Cx p s m args meth cd dC dI dA own bytes nL ret) (hd : decode bytes (pcA C ix) = .ok (ins, ln)) (ho : okO MT FL ML CI CJ own C ix (pcA C ix, ln, 17, ins, a, b, c, e, v, w, ts, ks) = true) (hn : pcA C (ix + 1) = pcA C ix + ln)
    (hs : stepI 17 a b c e v w ts ix L st h = some y) (hy : At_ p l e0 R s m args below meth cd Q dC dI dA q wl A nL C y) : At_ p l e0 R s m args below meth cd Q dC dI dA q wl A nL C (ix, L, st, h) := by
  obtain ⟨hx, hb, hml, hr, hlk, hown, hts, hK, hNW⟩ := X
  simp only [stepI] at hs
  split at hs
  · rename_i x r
    cases hs
    intro hL hst hlen ls H locs hl hw
    have K := hy hL (VO.int hst.tail) hlen ls H locs hl hw
    simp only [hn] at K
    simp only [okO, decide_eq_true_eq] at ho
    obtain ⟨rfl, rfl⟩ := ho
    exact lv_i2b hx hb hd rfl K
  · cases hs

set_option maxHeartbeats 4000000 in
theorem sn_18 (X : Cx p s m args meth cd dC dI dA own bytes nL ret) (hd : decode bytes (pcA C ix) = .ok (ins, ln)) (ho : okO MT FL ML CI CJ own C ix (pcA C ix, ln, 18, ins, a, b, c, e, v, w, ts, ks) = true) (hn : pcA C (ix + 1) = pcA C ix + ln)
    (hs : stepI 18 a b c e v w ts ix L st h = some y) (hy : At_ p l e0 R s m args below meth cd Q dC dI dA q wl A nL C y) : At_ p l e0 R s m args below meth cd Q dC dI dA q wl A nL C (ix, L, st, h) := by
  obtain ⟨hx, hb, hml, hr, hlk, hown, hts, hK, hNW⟩ := X
  simp only [stepI] at hs
  split at hs
  · rename_i y0 x r
    cases hs
    intro hL hst hlen ls H locs hl hw
    have K := hy hL (VO.int hst.tail.tail) hlen ls H locs hl hw
    simp only [hn] at K
    simp only [okO, decide_eq_true_eq] at ho
    obtain ⟨rfl, rfl⟩ := ho
    exact W.lcmp hx hb hd K
  · cases hs

set_option maxHeartbeats 4000000 in
theorem sn_19 (X : Cx p s m args meth cd dC dI dA own bytes nL ret) (hd : decode bytes (pcA C ix) = .ok (ins, ln)) (ho : okO MT FL ML CI CJ own C ix (pcA C ix, ln, 19, ins, a, b, c, e, v, w, ts, ks) = true) (hn : pcA C (ix + 1) = pcA C ix + ln)
    (hs : stepI 19 a b c e v w ts ix L st h = some y) (hy : At_ p l e0 R s m args below meth cd Q dC dI dA q wl A nL C y) : At_ p l e0 R s m args below meth cd Q dC dI dA q wl A nL C (ix, L, st, h) := by
  obtain ⟨hx, hb, hml, hr, hlk, hown, hts, hK, hNW⟩ := X
  simp only [stepI] at hs
  split at hs
  · rename_i y0 x r
    intro hL hst hlen ls H locs hl hw
    simp only [okO] at ho
    split at ho
    · simp only [decide_eq_true_eq] at ho
      obtain ⟨rfl, hi, ht⟩ := ho
      match a, hi, hs with
      | 0, hi, hs =>
        cases hs
        have K := hy hL (hst.tail.tail) hlen ls H locs hl hw
        subst hi
        exact lv_icmp_eq (tgt := pcA C b) hx hb hd ht (fun hc => by have K := K; simp only [if_pos hc] at K; exact K) (fun hc => by have K := K; simp only [if_neg hc, hn] at K; exact K)
      | 1, hi, hs =>
        cases hs
        have K := hy hL (hst.tail.tail) hlen ls H locs hl hw
        subst hi
        exact lv_icmp_ne (tgt := pcA C b) hx hb hd ht (fun hc => by have K := K; simp only [if_neg hc] at K; exact K) (fun hc => by have K := K; simp only [if_pos hc, hn] at K; exact K)
      | 2, hi, hs =>
        cases hs
        have K := hy hL (hst.tail.tail) hlen ls H locs hl hw
        subst hi
        exact lv_icmp_lt (tgt := pcA C b) hx hb hd ht (fun hc => by have K := K; simp only [if_pos hc] at K; exact K) (fun hc => by have K := K; simp only [if_neg hc, hn] at K; exact K)
      | 3, hi, hs =>
        cases hs
        have K := hy hL (hst.tail.tail) hlen ls H locs hl hw
        subst hi
        exact lv_icmp_ge (tgt := pcA C b) hx hb hd ht (fun hc => by have K := K; simp only [if_pos hc] at K; exact K) (fun hc => by have K := K; simp only [if_neg hc, hn] at K; exact K)
      | 4, hi, hs =>
        cases hs
        have K := hy hL (hst.tail.tail) hlen ls H locs hl hw
        subst hi
        exact lv_icmp_gt (tgt := pcA C b) hx hb hd ht (fun hc => by have K := K; simp only [if_pos hc] at K; exact K) (fun hc => by have K := K; simp only [if_neg hc, hn] at K; exact K)
      | n + 5, hi, hs =>
        cases hs
        have K := hy hL (hst.tail.tail) hlen ls H locs hl hw
        subst hi
        exact lv_icmp_le (tgt := pcA C b) hx hb hd ht (fun hc => by have K := K; simp only [if_pos hc] at K; exact K) (fun hc => by have K := K; simp only [if_neg hc, hn] at K; exact K)
    · cases ho
  · cases hs

set_option maxHeartbeats 4000000 in
theorem sn_20 (X : Cx p s m args meth cd dC dI dA own bytes nL ret) (hd : decode bytes (pcA C ix) = .ok (ins, ln)) (ho : okO MT FL ML CI CJ own C ix (pcA C ix, ln, 20, ins, a, b, c, e, v, w, ts, ks) = true) (hn : pcA C (ix + 1) = pcA C ix + ln)
    (hs : stepI 20 a b c e v w ts ix L st h = some y) (hy : At_ p l e0 R s m args below meth cd Q dC dI dA q wl A nL C y) : At_ p l e0 R s m args below meth cd Q dC dI dA q wl A nL C (ix, L, st, h) := by
  obtain ⟨hx, hb, hml, hr, hlk, hown, hts, hK, hNW⟩ := X
  simp only [stepI] at hs
  split at hs
  · rename_i x r
    intro hL hst hlen ls H locs hl hw
    simp only [okO] at ho
    split at ho
    · simp only [decide_eq_true_eq] at ho
      obtain ⟨rfl, hi, ht⟩ := ho
      match a, hi, hs with
      | 0, hi, hs =>
        cases hs
        have K := hy hL (hst.tail) hlen ls H locs hl hw
        subst hi
        exact lv_if_eq (tgt := pcA C b) hx hb hd ht (fun hc => by have K := K; simp only [if_pos hc] at K; exact K) (fun hc => by have K := K; simp only [if_neg hc, hn] at K; exact K)
      | 1, hi, hs =>
        cases hs
        have K := hy hL (hst.tail) hlen ls H locs hl hw
        subst hi
        exact lv_if_ne (tgt := pcA C b) hx hb hd ht (fun hc => by have K := K; simp only [if_neg hc] at K; exact K) (fun hc => by have K := K; simp only [if_pos hc, hn] at K; exact K)
      | 2, hi, hs =>
        cases hs
        have K := hy hL (hst.tail) hlen ls H locs hl hw
        subst hi
        exact lv_if_lt (tgt := pcA C b) hx hb hd ht (fun hc => by have K := K; simp only [if_pos hc] at K; exact K) (fun hc => by have K := K; simp only [if_neg hc, hn] at K; exact K)
      | 3, hi, hs =>
        cases hs
        have K := hy hL (hst.tail) hlen ls H locs hl hw
        subst hi
        exact lv_if_ge (tgt := pcA C b) hx hb hd ht (fun hc => by have K := K; simp only [if_pos hc] at K; exact K) (fun hc => by have K := K; simp only [if_neg hc, hn] at K; exact K)
      | 4, hi, hs =>
        cases hs
        have K := hy hL (hst.tail) hlen ls H locs hl hw
        subst hi
        exact lv_if_gt (tgt := pcA C b) hx hb hd ht (fun hc => by have K := K; simp only [if_pos hc] at K; exact K) (fun hc => by have K := K; simp only [if_neg hc, hn] at K; exact K)
      | n + 5, hi, hs =>
        cases hs
        have K := hy hL (hst.tail) hlen ls H locs hl hw
        subst hi
        exact lv_if_le (tgt := pcA C b) hx hb hd ht (fun hc => by have K := K; simp only [if_pos hc] at K; exact K) (fun hc => by have K := K; simp only [if_neg hc, hn] at K; exact K)
    · cases ho
  · cases hs

set_option maxHeartbeats 4000000 in
theorem sn_21 (X : Cx p s m args meth cd dC dI dA own bytes nL ret) (hd : decode bytes (pcA C ix) = .ok (ins, ln)) (ho : okO MT FL ML CI CJ own C ix (pcA C ix, ln, 21, ins, a, b, c, e, v, w, ts, ks) = true) 
    (hs : stepI 21 a b c e v w ts ix L st h = some y) (hy : At_ p l e0 R s m args below meth cd Q dC dI dA q wl A nL C y) : At_ p l e0 R s m args below meth cd Q dC dI dA q wl A nL C (ix, L, st, h) := by
  obtain ⟨hx, hb, hml, hr, hlk, hown, hts, hK, hNW⟩ := X
  cases hs
  intro hL hst hlen ls H locs hl hw
  have K := hy hL hst hlen ls H locs hl hw
  simp only [okO] at ho
  split at ho
  · simp only [decide_eq_true_eq] at ho
    obtain ⟨rfl, ht⟩ := ho
    exact lv_goto (tgt := pcA C b) hx hb hd ht K
  · cases ho

set_option maxHeartbeats 4000000 in
theorem sn_32 (X : Cx p s m args meth cd dC dI dA own bytes nL ret) (hd : decode bytes (pcA C ix) = .ok (ins, ln)) (ho : okO MT FL ML CI CJ own C ix (pcA C ix, ln, 32, ins, a, b, c, e, v, w, ts, ks) = true) (hn : pcA C (ix + 1) = pcA C ix + ln)
    (hs : stepI 32 a b c e v w ts ix L st h = some y) (hy : At_ p l e0 R s m args below meth cd Q dC dI dA q wl A nL C y) : At_ p l e0 R s m args below meth cd Q dC dI dA q wl A nL C (ix, L, st, h) := by
  obtain ⟨hx, hb, hml, hr, hlk, hown, hts, hK, hNW⟩ := X
  simp only [okO, decide_eq_true_eq] at ho
  obtain ⟨rfl, rfl⟩ := ho
  simp only [stepI] at hs
  split at hs
  · cases hs
    intro hL hst hlen ls H locs hl hw
    have K := hy hL (VO.int hst) hlen ls H locs hl hw
    simp only [hn] at K
    exact lv_dup hx hb hd rfl K
  · cases hs
    intro hL hst hlen ls H locs hl hw
    have K := hy hL (VO.ref hst.hd hst) hlen ls H locs hl hw
    simp only [hn] at K
    exact lv_dup hx hb hd rfl K
  · cases hs

set_option maxHeartbeats 4000000 in
theorem sn_33 (X : Cx p s m args meth cd dC dI dA own bytes nL ret) (hd : decode bytes (pcA C ix) = .ok (ins, ln)) (ho : okO MT FL ML CI CJ own C ix (pcA C ix, ln, 33, ins, a, b, c, e, v, w, ts, ks) = true) (hn : pcA C (ix + 1) = pcA C ix + ln)
    (hs : stepI 33 a b c e v w ts ix L st h = some y) (hy : At_ p l e0 R s m args below meth cd Q dC dI dA q wl A nL C y) : At_ p l e0 R s m args below meth cd Q dC dI dA q wl A nL C (ix, L, st, h) := by
  obtain ⟨hx, hb, hml, hr, hlk, hown, hts, hK, hNW⟩ := X
  simp only [okO, decide_eq_true_eq] at ho
  obtain ⟨rfl, rfl⟩ := ho
  simp only [stepI] at hs
  split at hs
  · cases hs
    intro hL hst hlen ls H locs hl hw
    have K := hy hL (VO.int (VO.ref hst.tail.hd hst)) hlen ls H locs hl hw
    simp only [hn] at K
    exact lv_dup2_11 hx hb hd rfl rfl K
  · cases hs

set_option maxHeartbeats 4000000 in
theorem sn_34 (X : Cx p s m args meth cd dC dI dA own bytes nL ret) (hd : decode bytes (pcA C ix) = .ok (ins, ln)) (ho : okO MT FL ML CI CJ own C ix (pcA C ix, ln, 34, ins, a, b, c, e, v, w, ts, ks) = true) (hn : pcA C (ix + 1) = pcA C ix + ln)
    (hs : stepI 34 a b c e v w ts ix L st h = some y) (hy : At_ p l e0 R s m args below meth cd Q dC dI dA q wl A nL C y) : At_ p l e0 R s m args below meth cd Q dC dI dA q wl A nL C (ix, L, st, h) := by
  obtain ⟨hx, hb, hml, hr, hlk, hown, hts, hK, hNW⟩ := X
  simp only [okO, decide_eq_true_eq] at ho
  obtain ⟨rfl, rfl⟩ := ho
  simp only [stepI] at hs
  split at hs
  · cases hs
    intro hL hst hlen ls H locs hl hw
    have K := hy hL hst.tail hlen ls H locs hl hw
    simp only [hn] at K
    exact lv_pop hx hb hd rfl K
  · cases hs

end SN
