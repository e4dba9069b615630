/-! ===== each row of the constructors' machine is a step of the machine ===== -/
/-- the references of a list are of the first n cells; no double in it -/
def VA (n : Nat) (l : List AV) : Prop := (∀ r : Nat × Nat, Sum.inr r ∈ l → r.2 < n) ∧ ∀ x, Sum.inl (Value.double x) ∉ l
def VE (n : Nat) (e : CE) : Prop := match e with
  | .inl (_, vs) => VA n vs
  | .inr (_, _, .inr (.inr f)) => ∀ j p, f j = some p → p < n
  | _ => True
def VH (hp : List CE) : Prop := ∀ e ∈ hp, VE hp.length e
theorem VA.mono {n m : Nat} {l : List AV} (h : VA n l) (hm : n ≤ m) : VA m l := ⟨fun r hr => Nat.lt_of_lt_of_le (h.1 r hr) hm, h.2⟩
theorem VE.mono {n m : Nat} {e : CE} (h : VE n e) (hm : n ≤ m) : VE m e := by
  unfold VE at h ⊢
  split
  · exact VA.mono h hm
  · exact fun j p hp => Nat.lt_of_lt_of_le (h j p hp) hm
  · trivial
theorem VA.tail {n : Nat} {v : AV} {l : List AV} (h : VA n (v :: l)) : VA n l := ⟨fun r hr => h.1 r (List.mem_cons_of_mem _ hr), fun x hx => h.2 x (List.mem_cons_of_mem _ hx)⟩
theorem VA.int {n : Nat} {x : Int32} {l : List AV} (h : VA n l) : VA n (.inl (.int x) :: l) := ⟨fun r hr => by
  rcases List.mem_cons.mp hr with e | e
  · cases e
  · exact h.1 r e, fun y hy => by
  rcases List.mem_cons.mp hy with e | e
  · cases e
  · exact h.2 y e⟩
theorem VA.long {n : Nat} {x : Int64} {l : List AV} (h : VA n l) : VA n (.inl (.long x) :: l) := ⟨fun r hr => by
  rcases List.mem_cons.mp hr with e | e
  · cases e
  · exact h.1 r e, fun y hy => by
  rcases List.mem_cons.mp hy with e | e
  · cases e
  · exact h.2 y e⟩
theorem VA.ref {n : Nat} {x : Nat × Nat} {l : List AV} (hx : x.2 < n) (h : VA n l) : VA n (.inr x :: l) := ⟨fun r hr => by
  rcases List.mem_cons.mp hr with e | e
  · cases e; exact hx
  · exact h.1 r e, fun y hy => by
  rcases List.mem_cons.mp hy with e | e
  · cases e
  · exact h.2 y e⟩
theorem VA.nil {n : Nat} : VA n [] := ⟨fun _ h => absurd h List.not_mem_nil, fun _ h => absurd h List.not_mem_nil⟩
theorem VA.hd {n : Nat} {x : Nat × Nat} {l : List AV} (h : VA n (.inr x :: l)) : x.2 < n := h.1 x List.mem_cons_self
theorem VA.st1 {n : Nat} {L : List AV} {i : Nat} {x : Int32} (h : VA n L) : VA n (st1 L i (.inl (.int x))) := by
  refine ⟨fun r hr => ?_, fun y hy => ?_⟩
  · rcases st1_mem hr with e | e | e
    · cases e
    · cases e
    · exact h.1 r e
  · rcases st1_mem hy with e | e | e
    · cases e
    · cases e
    · exact h.2 y e
theorem getD_app {ad ad2 : List Nat} {p : Nat} (h : p < ad.length) : (ad ++ ad2).getD p 0 = ad.getD p 0 := by
  simp [List.getD_eq_getElem?_getD, List.getElem?_append_left h]
theorem nth_get {vs : List AV} {b : Nat} (h : b < vs.length) : vs[b]? = some (nth vs b) := by
  induction vs generalizing b with
  | nil => simp at h
  | cons z zs ih =>
    cases b with
    | zero => rfl
    | succ b => exact ih (by simpa using h)
theorem cvv_more {ad ad2 : List Nat} {v : AV} (h : ∀ r : Nat × Nat, v = .inr r → r.2 < ad.length) : cvv (qa (ad ++ ad2)) v = cvv (qa ad) v := by
  cases v with
  | inl x => rfl
  | inr r =>
    have := h r rfl
    show Value.ref ((ad ++ ad2).getD r.2 0) = Value.ref (ad.getD r.2 0)
    rw [getD_app this]
theorem map_more {ad ad2 : List Nat} {l : List AV} (h : VA ad.length l) : l.map (cvv (qa (ad ++ ad2))) = l.map (cvv (qa ad)) := List.map_congr_left (fun v hv => cvv_more (fun r hr => h.1 r (by rw [← hr]; exact hv)))
theorem lvs_more {ad ad2 : List Nat} : ∀ {L : List AV} (i : Nat), VA ad.length L → lvs (qa (ad ++ ad2)) i L = lvs (qa ad) i L
  | [], _, _ => rfl
  | v :: r, i, h => by
    have ih := lvs_more (ad := ad) (ad2 := ad2) (L := r) (i + 1) h.tail
    have hv := cvv_more (ad := ad) (ad2 := ad2) (v := v) (fun x hx => h.1 x (by rw [← hx]; exact List.mem_cons_self))
    cases v with
    | inl x => cases x <;> simp only [lvs, ih] <;> rw [hv]
    | inr x => simp only [lvs, ih]; rw [hv]
theorem ccE_more {dA : Nat → ClassId} {ad ad2 : List Nat} {e : CE} (h : VE ad.length e) : ccE dA (ad ++ ad2) e = ccE dA ad e := by
  unfold ccE
  unfold VE at h
  split
  · simp only at h
    rw [map_more h]
  · rfl
  · rfl
  · rename_i t n f
    simp only at h
    refine congrArg (fun g => (Sum.inl (dA t, n, .inr (.inr (.inr (.inr g)))) : va_E)) (funext fun j => ?_)
    cases hj : f j with
    | none => rfl
    | some p =>
      show some ((ad ++ ad2).getD p 0) = some (ad.getD p 0)
      rw [getD_app (h j p hj)]
theorem wsC_more {dA : Nat → ClassId} {ad : List Nat} {hp : List CE} {a : Nat} {e : CE} (hl : ad.length = hp.length) (hv : VH hp) : wsC dA (ad ++ [a]) (hp ++ [e]) = wsC dA ad hp ++ [(a, ccE dA (ad ++ [a]) e)] := by
  unfold wsC
  rw [List.zipWith_append hl]
  congr 1
  apply List.ext_getElem?
  intro i
  rw [List.getElem?_zipWith, List.getElem?_zipWith]
  cases h1 : ad[i]? with
  | none => rfl
  | some x =>
    cases h2 : hp[i]? with
    | none => rfl
    | some y =>
      show some (x, _) = some (x, _)
      rw [ccE_more (by rw [hl]; exact hv y (List.mem_of_getElem? h2))]
theorem hnth_get {hp : List CE} {p : Nat} (h : p < hp.length) : hp[p]? = some (hnth hp p) := by
  induction hp generalizing p with
  | nil => simp at h
  | cons x r ih =>
    cases p with
    | zero => rfl
    | succ p => exact ih (by simpa using h)
theorem wsC_get {dA : Nat → ClassId} {ad : List Nat} {hp : List CE} {p : Nat} (hl : ad.length = hp.length) (h : p < hp.length) : (wsC dA ad hp)[p]? = some (ad.getD p 0, ccE dA ad (hnth hp p)) := by
  unfold wsC
  rw [List.getElem?_zipWith, hnth_get h]
  have : ad[p]? = some (ad.getD p 0) := by
    rw [List.getD_eq_getElem?_getD]
    have : p < ad.length := by omega
    simp [this]
  rw [this]
theorem wsC_set {dA : Nat → ClassId} {ad : List Nat} {hp : List CE} {p : Nat} {e : CE} (hl : ad.length = hp.length) (h : p < hp.length) {x : va_E} (hx : x = ccE dA ad e) : (wsC dA ad hp).set p (ad.getD p 0, x) = wsC dA ad (hp.set p e) := by
  subst hx
  apply List.ext_getElem?
  intro i
  by_cases hi : i = p
  · subst hi
    rw [List.getElem?_set_self (by simp [wsC]; omega)]
    unfold wsC
    rw [List.getElem?_zipWith, List.getElem?_set_self h]
    have : ad[i]? = some (ad.getD i 0) := by
      rw [List.getD_eq_getElem?_getD]
      have : i < ad.length := by omega
      simp [this]
    rw [this]
  · rw [List.getElem?_set_ne (Ne.symm hi)]
    unfold wsC
    rw [List.getElem?_zipWith, List.getElem?_zipWith, List.getElem?_set_ne (Ne.symm hi)]
theorem VH.set {hp : List CE} {p : Nat} {e : CE} (h : VH hp) (he : VE hp.length e) : VH (hp.set p e) := by
  intro x hx
  rw [List.length_set]
  rcases List.mem_or_eq_of_mem_set hx with h1 | h1
  · exact h x h1
  · rw [h1]; exact he
theorem VH.push {hp : List CE} {e : CE} (h : VH hp) (he : VE (hp.length + 1) e) : VH (hp ++ [e]) := by
  intro x hx
  rw [List.length_append]
  rcases List.mem_append.mp hx with h1 | h1
  · exact (h x h1).mono (by simp)
  · rw [List.mem_singleton.mp h1]; exact he
theorem VH.at {hp : List CE} {p : Nat} (h : VH hp) (hl : p < hp.length) : VE hp.length (hnth hp p) := h _ (List.mem_of_getElem? (hnth_get hl))
section CM
variable {p : Program} {l : Launch} {e0 : Env} {R : Room} {s : State} {m : MethodId} {args : Array Value} {below : List Frame} {meth : Method} {cd : Code} {Q : State → Prop}
variable {dC : Nat → ClassId} {dI : Nat → Nat → Nat} {dA : Nat → ClassId} {B : Nat} {nL : Nat} {bytes : ByteArray} {own : String} {C : List IE}
/-- the world of a point; the first cells' addresses are ad0, the others are new -/
def WC (dC : Nat → ClassId) (dI : Nat → Nat → Nat) (dA : Nat → ClassId) (B : Nat) (H0 H : Heap) (locs : List Loc) (ad : List Nat) (hp : List CE) : Prop :=
  va_P (dC, dI) vwCl (wsC dA ad hp) H ∧ va_D (fun q => B ≤ q) (wsC dA ad hp) ∧ va_S (fun q => B ≤ q) H0 H locs
def AC (p : Program) (l : Launch) (e0 : Env) (R : Room) (s : State) (m : MethodId) (args : Array Value) (below : List Frame) (meth : Method) (cd : Code) (Q : State → Prop) (dC : Nat → ClassId) (dI : Nat → Nat → Nat) (dA : Nat → ClassId) (B : Nat) (nL : Nat) (C : List IE) (ad0 : List Nat) (x : CC) : Prop :=
  VA x.2.2.2.1.length x.2.1 → VA x.2.2.2.1.length x.2.2.1 → VH x.2.2.2.1 → x.2.1.length = nL → ∀ (ad1 : List Nat) (ls : Array Slot) (H : Heap) (locs : List Loc), (ad0 ++ ad1).length = x.2.2.2.1.length → lv_has ls nL (lvs (qa (ad0 ++ ad1)) 0 x.2.1) → WC dC dI dA B s.heap H locs (ad0 ++ ad1) x.2.2.2.1 → W p l e0 R s m args below meth cd H locs x.2.2.2.2.1 x.2.2.2.2.2 Q (F0 m (pcA C x.1) ls (x.2.2.1.map (cvv (qa (ad0 ++ ad1)))))
def CxC (p : Program) (s : State) (m : MethodId) (args : Array Value) (meth : Method) (cd : Code) (dC : Nat → ClassId) (dI : Nat → Nat → Nat) (dA : Nat → ClassId) (B : Nat) (own : String) (bytes : ByteArray) (nL : Nat) : Prop :=
  Cx p s m args meth cd dC dI dA own bytes nL none ∧ meth.name = "<init>" ∧ B ≤ s.heap.size ∧ va_AO "WhyRoom$Row" s ∧ va_AO "WhyRoom$Text" s ∧ va_AO "WhyRoom$State" s
variable {CT : List MD} {FL ML : FLT} {CL : List (String × Nat × Nat)}
variable {pc ln a b c e ix mc ms : Nat} {ins : Instr} {v : Int32} {w : Int64} {ts : List (Int32 × Nat)} {ks : List Nat} {L st : List AV} {hp : List CE} {y : CC} {ad0 : List Nat}
-- OPS BEGIN
set_option maxHeartbeats 4000000 in
theorem cs_0 (XC : CxC p s m args meth cd dC dI dA B own bytes nL) (hd : decode bytes (pcA C ix) = .ok (ins, ln)) (ho : okC CT FL ML CL own C ix (pcA C ix, ln, 0, ins, a, b, c, e, v, w, ts, ks) = true) (hn : pcA C (ix + 1) = pcA C ix + ln)
    (hs : cmI 0 a b c v w (ix, L, st, hp, mc, ms) = some y) (hy : AC p l e0 R s m args below meth cd Q dC dI dA B nL C ad0 y) : AC p l e0 R s m args below meth cd Q dC dI dA B nL C ad0 (ix, L, st, hp, mc, ms) := by
  obtain ⟨⟨hx, hb, hml, hr, hlk, hown, hts, hK, hNW⟩, hin, hBs, hAO1, hAO2, hAO3⟩ := XC
  cases hs
  intro hL hst hVH hlen ad1 ls H locs hal hl hw
  have K := hy hL (VA.int hst) hVH hlen ad1 ls H locs hal hl hw
  simp only [hn] at K
  simp only [okC] at ho
  split at ho
  · simp only [decide_eq_true_eq] at ho
    obtain ⟨rfl, hv⟩ := ho
    exact lv_iconst hx hb hd hv K
  · simp only [decide_eq_true_eq] at ho
    obtain ⟨rfl, hv⟩ := ho
    exact lv_bipush hx hb hd hv K
  · simp only [decide_eq_true_eq] at ho
    obtain ⟨rfl, hv⟩ := ho
    exact lv_sipush hx hb hd hv K
  · cases ho
set_option maxHeartbeats 4000000 in
theorem cs_1 (XC : CxC p s m args meth cd dC dI dA B own bytes nL) (hd : decode bytes (pcA C ix) = .ok (ins, ln)) (ho : okC CT FL ML CL own C ix (pcA C ix, ln, 1, ins, a, b, c, e, v, w, ts, ks) = true) (hn : pcA C (ix + 1) = pcA C ix + ln)
    (hs : cmI 1 a b c v w (ix, L, st, hp, mc, ms) = some y) (hy : AC p l e0 R s m args below meth cd Q dC dI dA B nL C ad0 y) : AC p l e0 R s m args below meth cd Q dC dI dA B nL C ad0 (ix, L, st, hp, mc, ms) := by
  obtain ⟨⟨hx, hb, hml, hr, hlk, hown, hts, hK, hNW⟩, hin, hBs, hAO1, hAO2, hAO3⟩ := XC
  cases hs
  intro hL hst hVH hlen ad1 ls H locs hal hl hw
  have K := hy hL (VA.long hst) hVH hlen ad1 ls H locs hal hl hw
  simp only [hn] at K
  simp only [okC] at ho
  split at ho
  · simp only [decide_eq_true_eq] at ho
    obtain ⟨rfl, hv⟩ := ho
    exact lv_lconst hx hb hd hv K
  · cases ho
set_option maxHeartbeats 4000000 in
theorem cs_2 (XC : CxC p s m args meth cd dC dI dA B own bytes nL) (hd : decode bytes (pcA C ix) = .ok (ins, ln)) (ho : okC CT FL ML CL own C ix (pcA C ix, ln, 2, ins, a, b, c, e, v, w, ts, ks) = true) (hn : pcA C (ix + 1) = pcA C ix + ln)
    (hs : cmI 2 a b c v w (ix, L, st, hp, mc, ms) = some y) (hy : AC p l e0 R s m args below meth cd Q dC dI dA B nL C ad0 y) : AC p l e0 R s m args below meth cd Q dC dI dA B nL C ad0 (ix, L, st, hp, mc, ms) := by
  obtain ⟨⟨hx, hb, hml, hr, hlk, hown, hts, hK, hNW⟩, hin, hBs, hAO1, hAO2, hAO3⟩ := XC
  simp only [cmI] at hs
  split at hs
  · rename_i y0 hx0
    cases hs
    intro hL hst hVH hlen ad1 ls H locs hal hl hw
    have K := hy hL (VA.int hst) hVH hlen ad1 ls H locs hal hl hw
    have hv0 := lv_nth hl (show nth L a ≠ av0 by rw [hx0]; simp)
    rw [hx0] at hv0
    simp only [hn] at K
    simp only [okC] at ho
    split at ho
    · simp only [decide_eq_true_eq] at ho
      obtain ⟨rfl, hv⟩ := ho
      exact lv_iload_n hx hb hd hv hv0 K
    · cases ho
  · cases hs
set_option maxHeartbeats 4000000 in
theorem cs_4 (XC : CxC p s m args meth cd dC dI dA B own bytes nL) (hd : decode bytes (pcA C ix) = .ok (ins, ln)) (ho : okC CT FL ML CL own C ix (pcA C ix, ln, 4, ins, a, b, c, e, v, w, ts, ks) = true) (hn : pcA C (ix + 1) = pcA C ix + ln)
    (hs : cmI 4 a b c v w (ix, L, st, hp, mc, ms) = some y) (hy : AC p l e0 R s m args below meth cd Q dC dI dA B nL C ad0 y) : AC p l e0 R s m args below meth cd Q dC dI dA B nL C ad0 (ix, L, st, hp, mc, ms) := by
  obtain ⟨⟨hx, hb, hml, hr, hlk, hown, hts, hK, hNW⟩, hin, hBs, hAO1, hAO2, hAO3⟩ := XC
  simp only [cmI] at hs
  split at hs
  · rename_i y0 hx0
    cases hs
    intro hL hst hVH hlen ad1 ls H locs hal hl hw
    have K := hy hL (VA.ref (hL.1 _ (by rw [← hx0]; exact nth_mem (by rw [hx0]; simp))) hst) hVH hlen ad1 ls H locs hal hl hw
    have hv0 := lv_nth hl (show nth L a ≠ av0 by rw [hx0]; simp)
    rw [hx0] at hv0
    simp only [hn] at K
    simp only [okC] at ho
    split at ho
    · simp only [decide_eq_true_eq] at ho
      obtain ⟨rfl, hv⟩ := ho
      exact lv_aload_n hx hb hd hv hv0 K
    · cases ho
  · cases hs
set_option maxHeartbeats 4000000 in
theorem cs_5 (XC : CxC p s m args meth cd dC dI dA B own bytes nL) (ha : a < nL) (hd : decode bytes (pcA C ix) = .ok (ins, ln)) (ho : okC CT FL ML CL own C ix (pcA C ix, ln, 5, ins, a, b, c, e, v, w, ts, ks) = true) (hn : pcA C (ix + 1) = pcA C ix + ln)
    (hs : cmI 5 a b c v w (ix, L, st, hp, mc, ms) = some y) (hy : AC p l e0 R s m args below meth cd Q dC dI dA B nL C ad0 y) : AC p l e0 R s m args below meth cd Q dC dI dA B nL C ad0 (ix, L, st, hp, mc, ms) := by
  obtain ⟨⟨hx, hb, hml, hr, hlk, hown, hts, hK, hNW⟩, hin, hBs, hAO1, hAO2, hAO3⟩ := XC
  simp only [cmI] at hs
  split at hs
  · rename_i y0 r
    cases hs
    intro hL hst hVH hlen ad1 ls H locs hal hl hw
    simp only [okC] at ho
    split at ho
    · simp only [decide_eq_true_eq] at ho
      obtain ⟨rfl, hv⟩ := ho
      refine lv_istore_n hx hb hd hv hl ha rfl (fun ls hl => ?_)
      have K := hy (VA.st1 hL) hst.tail hVH (by rw [← hlen]; exact st1_len _ _ _) ad1 ls H locs hal (lv_st1 hL.2 hl) hw
      simp only [hn] at K
      exact K
    · cases ho
  · cases hs
set_option maxHeartbeats 4000000 in
theorem cs_8 (XC : CxC p s m args meth cd dC dI dA B own bytes nL) (ha : a < nL) (hd : decode bytes (pcA C ix) = .ok (ins, ln)) (ho : okC CT FL ML CL own C ix (pcA C ix, ln, 8, ins, a, b, c, e, v, w, ts, ks) = true) (hn : pcA C (ix + 1) = pcA C ix + ln)
    (hs : cmI 8 a b c v w (ix, L, st, hp, mc, ms) = some y) (hy : AC p l e0 R s m args below meth cd Q dC dI dA B nL C ad0 y) : AC p l e0 R s m args below meth cd Q dC dI dA B nL C ad0 (ix, L, st, hp, mc, ms) := by
  obtain ⟨⟨hx, hb, hml, hr, hlk, hown, hts, hK, hNW⟩, hin, hBs, hAO1, hAO2, hAO3⟩ := XC
  simp only [cmI] at hs
  split at hs
  · rename_i y0 hx0
    cases hs
    intro hL hst hVH hlen ad1 ls H locs hal hl hw
    simp only [okC] at ho
    split at ho
    · simp only [decide_eq_true_eq] at ho
      obtain ⟨rfl, rfl, hv⟩ := ho
      have hm := lvs_of (q := qa (ad0 ++ ad1)) L 0 _ (show nth L _ ≠ av0 by rw [hx0]; simp)
      rw [hx0, Nat.zero_add] at hm
      obtain ⟨k, hk⟩ := List.getElem?_of_mem hm
      refine lv_iinc hx hb hd hl (k := k) hk (by rw [hv]) ha rfl (fun ls hl => ?_)
      have K := hy (VA.st1 hL) hst hVH (by rw [← hlen]; exact st1_len _ _ _) ad1 ls H locs hal (lv_st1 hL.2 hl) hw
      simp only [hn] at K
      exact K
    · cases ho
  · cases hs
set_option maxHeartbeats 4000000 in
theorem cs_19 (XC : CxC p s m args meth cd dC dI dA B own bytes nL) (hd : decode bytes (pcA C ix) = .ok (ins, ln)) (ho : okC CT FL ML CL own C ix (pcA C ix, ln, 19, ins, a, b, c, e, v, w, ts, ks) = true) (hn : pcA C (ix + 1) = pcA C ix + ln)
    (hs : cmI 19 a b c v w (ix, L, st, hp, mc, ms) = some y) (hy : AC p l e0 R s m args below meth cd Q dC dI dA B nL C ad0 y) : AC p l e0 R s m args below meth cd Q dC dI dA B nL C ad0 (ix, L, st, hp, mc, ms) := by
  obtain ⟨⟨hx, hb, hml, hr, hlk, hown, hts, hK, hNW⟩, hin, hBs, hAO1, hAO2, hAO3⟩ := XC
  simp only [cmI] at hs
  split at hs
  · rename_i y0 z r
    split at hs
    · cases hs
      intro hL hst hVH hlen ad1 ls H locs hal hl hw
      have K := hy hL hst.tail.tail hVH hlen ad1 ls H locs hal hl hw
      simp only [okC] at ho
      split at ho
      · simp only [decide_eq_true_eq] at ho
        obtain ⟨rfl, rfl, ht⟩ := ho
        exact lv_icmp_ge (tgt := pcA C b) hx hb hd ht (fun hc => by have K := K; simp only [if_pos hc] at K; exact K) (fun hc => by have K := K; simp only [if_neg hc, hn] at K; exact K)
      · cases ho
    · cases hs
  · cases hs
set_option maxHeartbeats 4000000 in
theorem cs_21 (XC : CxC p s m args meth cd dC dI dA B own bytes nL) (hd : decode bytes (pcA C ix) = .ok (ins, ln)) (ho : okC CT FL ML CL own C ix (pcA C ix, ln, 21, ins, a, b, c, e, v, w, ts, ks) = true) 
    (hs : cmI 21 a b c v w (ix, L, st, hp, mc, ms) = some y) (hy : AC p l e0 R s m args below meth cd Q dC dI dA B nL C ad0 y) : AC p l e0 R s m args below meth cd Q dC dI dA B nL C ad0 (ix, L, st, hp, mc, ms) := by
  obtain ⟨⟨hx, hb, hml, hr, hlk, hown, hts, hK, hNW⟩, hin, hBs, hAO1, hAO2, hAO3⟩ := XC
  cases hs
  intro hL hst hVH hlen ad1 ls H locs hal hl hw
  have K := hy hL hst hVH hlen ad1 ls H locs hal hl hw
  simp only [okC] at ho
  split at ho
  · simp only [decide_eq_true_eq] at ho
    obtain ⟨rfl, ht⟩ := ho
    exact lv_goto (tgt := pcA C b) hx hb hd ht K
  · cases ho
set_option maxHeartbeats 4000000 in
theorem cs_22 (XC : CxC p s m args meth cd dC dI dA B own bytes nL) (hFL : ∀ t ∈ FL, FLok t) (hd : decode bytes (pcA C ix) = .ok (ins, ln)) (ho : okC CT FL ML CL own C ix (pcA C ix, ln, 22, ins, a, b, c, e, v, w, ts, ks) = true) (hn : pcA C (ix + 1) = pcA C ix + ln)
    (hs : cmI 22 a b c v w (ix, L, st, hp, mc, ms) = some y) (hy : AC p l e0 R s m args below meth cd Q dC dI dA B nL C ad0 y) : AC p l e0 R s m args below meth cd Q dC dI dA B nL C ad0 (ix, L, st, hp, mc, ms) := by
  obtain ⟨⟨hx, hb, hml, hr, hlk, hown, hts, hK, hNW⟩, hin, hBs, hAO1, hAO2, hAO3⟩ := XC
  simp only [okC] at ho
  split at ho
  · rename_i idx
    simp only [Bool.and_eq_true, decide_eq_true_eq] at ho
    obtain ⟨rfl, hFe⟩ := ho
    obtain ⟨⟨Cn, T, N⟩, hc, hbn, hlink⟩ := hFL _ (List.mem_of_getElem? hFe)
    obtain ⟨h1, -, -, h4⟩ := cls_ok _ _ hc
    simp only [cmI] at hs
    split at hs
    · rename_i k0 p0 r
      split at hs
      · rename_i ci vs hk
        split at hs
        · rename_i hci
          subst hci
          split at hs
          · rename_i y0 hy0
            cases hs
            intro hL hst hVH hlen ad1 ls H locs hal hl hw
            have hp0 : p0 < hp.length := hst.hd
            have hve := hVH.at hp0
            rw [hk] at hve
            have K := hy hL (VA.ref (hve.1 _ (by rw [← hy0]; exact nth_mem (by rw [hy0]; simp))) hst.tail) hVH hlen ad1 ls H locs hal hl hw
            simp only [hn] at K
            have hws := wsC_get (dA := dA) hal hp0
            rw [hk] at hws
            have hget : (vs.map (cvv (qa (ad0 ++ ad1))))[b]? = some (cvv (qa (ad0 ++ ad1)) (.inr y0)) := by
              have hlt := nth_lt (L := vs) (n := b) (by rw [hy0]; simp)
              rw [List.getElem?_map, ← hy0]
              rw [nth_get hlt]
              rfl
            exact va_get (D := (dC, dI)) (ci := ci) (v := cvv (qa (ad0 ++ ad1)) (.inr y0)) (C := Cn) (T := T) (N := N) hx hb hts h1 hown hK hw.1 p0 hws hc b hbn (hts _ hlink) (fun x hh => by rw [← h4 b]; exact hh) hget hd K
          · cases hs
        · cases hs
      · cases hs
    · cases hs
  · cases ho
theorem okV_ty {c : Nat} {u : AV} {ty : FieldType} (q : Nat → Nat → Nat) (h : okV c u = true) (ht : tyK c (some ty) = true) : narrow ty (cvv q u) = cvv q u ∧ fits ty (cvv q u) = true := by
  unfold okV at h
  split at h
  · cases ty <;> first | (exact ⟨rfl, rfl⟩) | (cases ht)
  · cases ty <;> first | (exact ⟨rfl, rfl⟩) | (cases ht)
  · cases ty <;> first | (exact ⟨rfl, rfl⟩) | (cases ht)
  · cases h
set_option maxHeartbeats 4000000 in
theorem cs_23 (XC : CxC p s m args meth cd dC dI dA B own bytes nL) (hFL : ∀ t ∈ FL, FLok t) (hd : decode bytes (pcA C ix) = .ok (ins, ln)) (ho : okC CT FL ML CL own C ix (pcA C ix, ln, 23, ins, a, b, c, e, v, w, ts, ks) = true) (hn : pcA C (ix + 1) = pcA C ix + ln)
    (hs : cmI 23 a b c v w (ix, L, st, hp, mc, ms) = some y) (hy : AC p l e0 R s m args below meth cd Q dC dI dA B nL C ad0 y) : AC p l e0 R s m args below meth cd Q dC dI dA B nL C ad0 (ix, L, st, hp, mc, ms) := by
  obtain ⟨⟨hx, hb, hml, hr, hlk, hown, hts, hK, hNW⟩, hin, hBs, hAO1, hAO2, hAO3⟩ := XC
  simp only [okC] at ho
  split at ho
  · rename_i idx
    simp only [Bool.and_eq_true, decide_eq_true_eq] at ho
    obtain ⟨⟨rfl, hFe⟩, hty9⟩ := ho
    obtain ⟨⟨Cn, T, N⟩, hc, hbn, hlink⟩ := hFL _ (List.mem_of_getElem? hFe)
    obtain ⟨h1, ⟨ty0, hty⟩, hnm, h4⟩ := cls_ok _ _ hc
    rw [hc] at hty9
    simp only [Bool.and_eq_true, Bool.or_eq_true, decide_eq_true_eq] at hty9
    obtain ⟨htk, hfo⟩ := hty9
    rw [hty b hbn] at htk
    simp only [cmI] at hs
    split at hs
    · rename_i u k0 p0 r
      split at hs
      · rename_i ci vs hk
        split at hs
        · rename_i hcond
          obtain ⟨hci, hbl, hok⟩ := hcond
          subst hci
          cases hs
          intro hL hst hVH hlen ad1 ls H locs hal hl hw
          have hp0 : p0 < hp.length := hst.tail.hd
          have hve := hVH.at hp0
          rw [hk] at hve
          have hws := wsC_get (dA := dA) hal hp0
          rw [hk] at hws
          obtain ⟨hna, hfi⟩ := okV_ty (qa (ad0 ++ ad1)) hok htk
          have hVe : VE hp.length (.inl (ci, vs.set b u)) := by
            refine ⟨fun r9 hr9 => ?_, fun x9 hx9 => ?_⟩
            · rcases List.mem_or_eq_of_mem_set hr9 with h9 | h9
              · exact hve.1 r9 h9
              · exact hst.1 r9 (by rw [h9]; exact List.mem_cons_self)
            · rcases List.mem_or_eq_of_mem_set hx9 with h9 | h9
              · exact hve.2 x9 h9
              · exact hst.2 x9 (by rw [h9]; exact List.mem_cons_self)
          have hset : (wsC dA (ad0 ++ ad1) hp).set p0 ((ad0 ++ ad1).getD p0 0, .inr (ci, (vs.map (cvv (qa (ad0 ++ ad1)))).set b (cvv (qa (ad0 ++ ad1)) u))) = wsC dA (ad0 ++ ad1) (hp.set p0 (.inl (ci, vs.set b u))) := wsC_set hal hp0 (by simp [ccE, List.map_set])
          have fin : ∀ (H1 : Heap) (locs1 : List Loc), va_P (dC, dI) vwCl ((wsC dA (ad0 ++ ad1) hp).set p0 ((ad0 ++ ad1).getD p0 0, .inr (ci, (vs.map (cvv (qa (ad0 ++ ad1)))).set b (cvv (qa (ad0 ++ ad1)) u)))) H1 → va_D (fun q => B ≤ q) ((wsC dA (ad0 ++ ad1) hp).set p0 ((ad0 ++ ad1).getD p0 0, .inr (ci, (vs.map (cvv (qa (ad0 ++ ad1)))).set b (cvv (qa (ad0 ++ ad1)) u)))) → va_S (fun q => B ≤ q) s.heap H1 locs1 → W p l e0 R s m args below meth cd H1 locs1 mc ms Q (F0 m (pcA C ix + 3) ls (r.map (cvv (qa (ad0 ++ ad1))))) := by
            intro H1 locs1 hP hD hS
            rw [hset] at hP hD
            have K := hy (by simpa using hL) (by simpa using hst.tail.tail) (hVH.set hVe) hlen ad1 ls H1 locs1 (by simpa using hal) hl ⟨hP, hD, hS⟩
            simp only [hn] at K
            exact K
          by_cases hfin : (T b).2.2.2 = false
          · exact va_put (D := (dC, dI)) (ci := ci) (v := cvv (qa (ad0 ++ ad1)) u) (ty := ty0 b) (C := Cn) (T := T) (N := N) hx hb hts h1 ty0 hty hnm hown hK hw.1 hw.2.1 hw.2.2 p0 hws hc b hbn (hts _ hlink) (fun x hh => by rw [← h4 b]; exact hh) hfin (hty b hbn) hna hfi (by simpa using hbl) hd fin
          · have hfin : (T b).2.2.2 = true := by cases hq : (T b).2.2.2 with
              | true => rfl
              | false => exact absurd hq hfin
            have hCo : Cn = own := by
              rcases hfo with h9 | h9
              · rw [hfin] at h9; cases h9
              · exact h9
            exact va_putF (D := (dC, dI)) (ci := ci) (v := cvv (qa (ad0 ++ ad1)) u) (ty := ty0 b) (C := Cn) (T := T) (N := N) hx hb hts h1 ty0 hty hnm hown hK hw.1 hw.2.1 hw.2.2 p0 hws hc b hbn (hts _ hlink) (fun x hh => by rw [← h4 b]; exact hh) hfin hin ((h4 b).trans hCo) (hty b hbn) hna hfi (by simpa using hbl) hd fin
        · cases hs
      · cases hs
    · cases hs
  · cases ho
set_option maxHeartbeats 4000000 in
theorem cs_28 (XC : CxC p s m args meth cd dC dI dA B own bytes nL) (hd : decode bytes (pcA C ix) = .ok (ins, ln)) (ho : okC CT FL ML CL own C ix (pcA C ix, ln, 28, ins, a, b, c, e, v, w, ts, ks) = true) (hn : pcA C (ix + 1) = pcA C ix + ln)
    (hs : cmI 28 a b c v w (ix, L, st, hp, mc, ms) = some y) (hy : AC p l e0 R s m args below meth cd Q dC dI dA B nL C ad0 y) : AC p l e0 R s m args below meth cd Q dC dI dA B nL C ad0 (ix, L, st, hp, mc, ms) := by
  obtain ⟨⟨hx, hb, hml, hr, hlk, hown, hts, hK, hNW⟩, hin, hBs, hAO1, hAO2, hAO3⟩ := XC
  simp only [okC, decide_eq_true_eq] at ho
  obtain ⟨rfl, rfl⟩ := ho
  simp only [cmI] at hs
  split at hs
  · rename_i y0 j k0 p0 r
    split at hs
    · rename_i n f hk
      split at hs
      · rename_i hin9
        cases hs
        intro hL hst hVH hlen ad1 ls H locs hal hl hw
        have hp0 : p0 < hp.length := hst.tail.tail.hd
        have hws := wsC_get (dA := dA) hal hp0
        rw [hk] at hws
        refine va_iast (D := (dC, dI)) (cl := vwCl) hx hb hK hw.1 hw.2.1 hw.2.2 p0 0 hws rfl (inb_vp hin9) hd (fun H1 locs1 hP hD hS => ?_)
        have hset : (wsC dA (ad0 ++ ad1) hp).set p0 ((ad0 ++ ad1).getD p0 0, .inl (dA 0, n, .inl (upd f j.toNatClampNeg y0))) = wsC dA (ad0 ++ ad1) (hp.set p0 (.inr (0, n, .inl (upd f j.toNatClampNeg y0)))) := wsC_set hal hp0 rfl
        rw [hset] at hP hD
        have K := hy (by simpa using hL) (by simpa using hst.tail.tail.tail) (hVH.set trivial) hlen ad1 ls H1 locs1 (by simpa using hal) hl ⟨hP, hD, hS⟩
        simp only [hn] at K
        exact K
      · cases hs
    · cases hs
  · cases hs
set_option maxHeartbeats 4000000 in
theorem cs_32 (XC : CxC p s m args meth cd dC dI dA B own bytes nL) (hd : decode bytes (pcA C ix) = .ok (ins, ln)) (ho : okC CT FL ML CL own C ix (pcA C ix, ln, 32, ins, a, b, c, e, v, w, ts, ks) = true) (hn : pcA C (ix + 1) = pcA C ix + ln)
    (hs : cmI 32 a b c v w (ix, L, st, hp, mc, ms) = some y) (hy : AC p l e0 R s m args below meth cd Q dC dI dA B nL C ad0 y) : AC p l e0 R s m args below meth cd Q dC dI dA B nL C ad0 (ix, L, st, hp, mc, ms) := by
  obtain ⟨⟨hx, hb, hml, hr, hlk, hown, hts, hK, hNW⟩, hin, hBs, hAO1, hAO2, hAO3⟩ := XC
  simp only [okC, decide_eq_true_eq] at ho
  obtain ⟨rfl, rfl⟩ := ho
  simp only [cmI] at hs
  split at hs
  · cases hs
    intro hL hst hVH hlen ad1 ls H locs hal hl hw
    have K := hy hL (VA.ref hst.hd hst) hVH hlen ad1 ls H locs hal hl hw
    simp only [hn] at K
    exact lv_dup hx hb hd rfl K
  · cases hs
theorem dfl_VA (ci n : Nat) : VA n (dfl ci) := by
  unfold dfl
  split
  · refine ⟨fun r hr => ?_, fun x hx => ?_⟩
    · obtain ⟨k, -, hk⟩ := List.mem_map.mp hr
      unfold dflV at hk
      split at hk <;> cases hk
    · obtain ⟨k, -, hk⟩ := List.mem_map.mp hx
      unfold dflV at hk
      split at hk <;> cases hk
  · exact VA.nil
theorem dflV_ok {ty : FieldType} (q : Nat → Nat → Nat) (h : ty ≠ .float ∧ ty ≠ .double ∧ ty ≠ .byte ∧ ty ≠ .char ∧ ty ≠ .short) : defaultValue ty = cvv q (dflV (some ty)) := by
  obtain ⟨h1, h2, h3, h4, h5⟩ := h
  cases ty <;> first | rfl | (exact absurd rfl h1) | (exact absurd rfl h2) | (exact absurd rfl h3) | (exact absurd rfl h4) | (exact absurd rfl h5)
def tyGd (ty : FieldType) : Bool := match ty with
  | .float => false
  | .double => false
  | .byte => false
  | .char => false
  | .short => false
  | _ => true
theorem cl_tys : (vwCl.all fun r => (List.range r.2.2).all fun k => match parseFieldDescriptor (r.2.1 k).2.2.1 with
    | some ty => tyGd ty
    | none => false) = true := by decide +kernel
theorem ws_pushC {dA : Nat → ClassId} {ad : List Nat} {hp : List CE} {x : Nat} {e : CE} {z : va_E} (hal : ad.length = hp.length) (hVH : VH hp) (hz : z = ccE dA (ad ++ [x]) e) : wsC dA ad hp ++ [(x, z)] = wsC dA (ad ++ [x]) (hp ++ [e]) := by
  rw [wsC_more hal hVH, hz]
set_option maxHeartbeats 4000000 in
theorem cs_60 (XC : CxC p s m args meth cd dC dI dA B own bytes nL) (hCL : ∀ t ∈ CL, CLok t) (hRc : mc + 1 ≤ R.cells ∧ ms + b ≤ R.slots) (hd : decode bytes (pcA C ix) = .ok (ins, ln)) (ho : okC CT FL ML CL own C ix (pcA C ix, ln, 60, ins, a, b, c, e, v, w, ts, ks) = true) (hn : pcA C (ix + 1) = pcA C ix + ln)
    (hs : cmI 60 a b c v w (ix, L, st, hp, mc, ms) = some y) (hy : AC p l e0 R s m args below meth cd Q dC dI dA B nL C ad0 y) : AC p l e0 R s m args below meth cd Q dC dI dA B nL C ad0 (ix, L, st, hp, mc, ms) := by
  obtain ⟨⟨hx, hb, hml, hr, hlk, hown, hts, hK, hNW⟩, hin, hBs, hAO1, hAO2, hAO3⟩ := XC
  simp only [okC] at ho
  split at ho
  · rename_i idx
    simp only [Bool.and_eq_true, decide_eq_true_eq] at ho
    obtain ⟨⟨rfl, hCe⟩, hnf⟩ := ho
    obtain ⟨⟨Cn, T, N⟩, hc, hcl, hinst, hini⟩ := hCL _ (List.mem_of_getElem? hCe)
    simp only at hc
    rw [hc] at hnf
    simp only [decide_eq_true_eq] at hnf
    subst hnf
    obtain ⟨h1, ⟨ty0, hty⟩, hnm, h4⟩ := cls_ok _ _ hc
    cases hs
    intro hL hst hVH hlen ad1 ls H locs hal hl hw
    have hgd : ∀ k, k < N → defaultValue (ty0 k) = vp_V ((dfl a).map (cvv (qa (ad0 ++ ad1)))) k := by
      intro k hk
      have h9 := List.all_eq_true.mp cl_tys _ (List.mem_of_getElem? hc)
      have h8 := List.all_eq_true.mp h9 k (List.mem_range.mpr hk)
      simp only [hty k hk] at h8
      have e1 : vp_V ((dfl a).map (cvv (qa (ad0 ++ ad1)))) k = cvv (qa (ad0 ++ ad1)) (dflV (some (ty0 k))) := by
        unfold vp_V dfl
        rw [hc]
        simp [List.getD_eq_getElem?_getD, hk, hty k hk]
      rw [e1]
      refine dflV_ok _ ?_
      generalize ty0 k = ty at h8
      cases ty <;> first | (simp [tyGd] at h8; done) | (refine ⟨?_, ?_, ?_, ?_, ?_⟩ <;> simp)
    refine va_new (D := (dC, dI)) (ci := a) (fs := (dfl a).map (cvv (qa (ad0 ++ ad1)))) (C := Cn) (T := T) (N := N) hx hb hts h1 ty0 hty hown (hts _ hcl) (hts _ hinst) (hts _ hini) hK hw.1 hw.2.1 hw.2.2 (fun q9 hq9 => Nat.le_trans hBs hq9) hc hgd hRc.1 hRc.2 hd (fun q9 H1 hP hD hS => ?_)
    have hz : (Sum.inr (a, (dfl a).map (cvv (qa (ad0 ++ ad1)))) : va_E) = ccE dA ((ad0 ++ ad1) ++ [q9]) (.inl (a, dfl a)) := by
      show _ = Sum.inr (a, (dfl a).map (cvv (qa ((ad0 ++ ad1) ++ [q9]))))
      rw [map_more (ad := ad0 ++ ad1) (ad2 := [q9]) (dfl_VA _ _)]
    rw [ws_pushC hal hVH hz] at hP hD
    rw [List.append_assoc] at hP hD
    have hst2 : (Sum.inr (0, hp.length) :: st : List AV).map (cvv (qa (ad0 ++ (ad1 ++ [q9])))) = .ref q9 :: st.map (cvv (qa (ad0 ++ ad1))) := by
      rw [← List.append_assoc, List.map_cons, map_more (by rw [hal]; exact hst)]
      congr 1
      show Value.ref (((ad0 ++ ad1) ++ [q9]).getD hp.length 0) = _
      rw [← hal]
      simp [List.getD_eq_getElem?_getD]
    have K := hy (by simpa using hL.mono (Nat.le_succ _)) (by simpa using VA.ref (x := (0, hp.length)) (Nat.lt_succ_self _) (hst.mono (Nat.le_succ _))) (hVH.push (dfl_VA _ _)) hlen (ad1 ++ [q9]) ls H1 locs (by rw [← List.append_assoc]; simp at hal ⊢; omega) (by rw [← List.append_assoc, lvs_more 0 (by rw [hal]; exact hL)]; exact hl) ⟨hP, hD, hS⟩
    simp only [hn] at K
    rw [hst2] at K
    exact K
  · cases ho
theorem fc_same {dA : Nat → ClassId} {D : va_G} {s : State} {t : Nat} {ty : FieldType} {cA : ClassId} (hK : va_K D vwCl (tysOf dA) s) (ht : (tysOf dA)[t]? = some (dA t, ty)) (h : va_RA s cA ty) : cA = dA t := by
  have h1 := (hK.2 t _ ht).2
  have key : ∀ c, va_RA s c ty → s.vm.findClass ("[" ++ ty.toString) = some c := by
    intro c hc
    cases ty with
    | object C =>
      obtain ⟨kA, comp, -, -, -, h9⟩ := hc
      exact h9
    | _ => exact hc
  exact Option.some.inj ((key _ h).symm.trans (key _ h1))
theorem cb8 {n : Nat} {ty : FieldType} (h : n < 1000) (hc : componentBytes ty ≤ 8) : n * componentBytes ty ≤ 536870912 := Nat.le_trans (Nat.mul_le_mul (Nat.le_of_lt h) hc) (by decide)
theorem getD_last (ad : List Nat) (q9 : Nat) {n : Nat} (h : ad.length = n) : (ad ++ [q9]).getD n 0 = q9 := by
  subst h
  simp [List.getD_eq_getElem?_getD]
theorem arr_in : Cond.arrayClass .int ∈ lw_g ∧ Cond.arrayClass .byte ∈ lw_g ∧ Cond.arrayClass .boolean ∈ lw_g ∧ Cond.arrayClass .long ∈ lw_g := ⟨lw_gi (by decide +kernel) rfl, lw_gi (by decide +kernel) rfl, lw_gi (by decide +kernel) rfl, lw_gi (by decide +kernel) rfl⟩
set_option maxHeartbeats 4000000 in
theorem cs_61 (XC : CxC p s m args meth cd dC dI dA B own bytes nL) (hRc : ∀ n : Int32, (∃ r, st = .inl (.int n) :: r) → mc + 1 ≤ R.cells ∧ ms + n.toNatClampNeg ≤ R.slots) (hd : decode bytes (pcA C ix) = .ok (ins, ln)) (ho : okC CT FL ML CL own C ix (pcA C ix, ln, 61, ins, a, b, c, e, v, w, ts, ks) = true) (hn : pcA C (ix + 1) = pcA C ix + ln)
    (hs : cmI 61 a b c v w (ix, L, st, hp, mc, ms) = some y) (hy : AC p l e0 R s m args below meth cd Q dC dI dA B nL C ad0 y) : AC p l e0 R s m args below meth cd Q dC dI dA B nL C ad0 (ix, L, st, hp, mc, ms) := by
  obtain ⟨⟨hx, hb, hml, hr, hlk, hown, hts, hK, hNW⟩, hin, hBs, hAO1, hAO2, hAO3⟩ := XC
  simp only [okC, decide_eq_true_eq] at ho
  obtain ⟨rfl, rfl, ha4⟩ := ho
  simp only [cmI] at hs
  split at hs
  · rename_i n r
    split at hs
    · rename_i hnn
      have hnb : n.toNatClampNeg < 1000 := by
        have h1 := Int32.lt_iff_toInt_lt.mp hnn.2
        have h2 : (1000 : Int32).toInt = 1000 := by decide
        have h3 : n.toNatClampNeg = n.toInt.toNat := rfl
        omega
      have hRc := hRc n ⟨r, rfl⟩
      match a, ha4, hs, hd with
      | 0, _, hs, hd =>
        cases hs
        intro hL hst hVH hlen ad1 ls H locs hal hl hw
        refine va_newa (D := (dC, dI)) (cl := vwCl) (atype := atC 0) (ty := .int) (a0 := (n.toNatClampNeg, .inl (fun _ => 0))) hx hb (hts _ arr_in.1) rfl hK hw.1 hw.2.1 hw.2.2 (fun q9 hq9 => Nat.le_trans hBs hq9) (fun _ => rfl) hnn.1 rfl (cb8 (ty := .int) hnb (by decide)) hRc.1 hRc.2 hd (fun q9 cA H1 hK2 hP hD hS => ?_)
        have hcA : cA = dA 0 := fc_same (t := 0) (ty := .int) hK rfl (hK2.2 7 (cA, .int) rfl).2
        subst hcA
        have hpush : wsC dA (ad0 ++ ad1) hp ++ [(q9, .inl (dA 0, n.toNatClampNeg, .inl (fun _ => 0)))] = wsC dA ((ad0 ++ ad1) ++ [q9]) (hp ++ [.inr (0, n.toNatClampNeg, .inl (fun _ => 0))]) := ws_pushC hal hVH rfl
        rw [hpush] at hP hD
        rw [List.append_assoc] at hP hD
        have hst2 : (Sum.inr (0, hp.length) :: r : List AV).map (cvv (qa (ad0 ++ (ad1 ++ [q9])))) = .ref q9 :: r.map (cvv (qa (ad0 ++ ad1))) := by
          rw [← List.append_assoc, List.map_cons, map_more (by rw [hal]; exact hst.tail)]
          congr 1
          show Value.ref (((ad0 ++ ad1) ++ [q9]).getD hp.length 0) = _
          rw [getD_last _ _ hal]
        have K := hy (by simpa using hL.mono (Nat.le_succ _)) (by simpa using VA.ref (x := (0, hp.length)) (Nat.lt_succ_self _) (hst.tail.mono (Nat.le_succ _))) (hVH.push trivial) hlen (ad1 ++ [q9]) ls H1 locs (by rw [← List.append_assoc]; simp at hal ⊢; omega) (by rw [← List.append_assoc, lvs_more 0 (by rw [hal]; exact hL)]; exact hl) ⟨hP, hD, hS⟩
        simp only [hn] at K
        rw [hst2] at K
        exact K
      | 1, _, hs, hd =>
        cases hs
        intro hL hst hVH hlen ad1 ls H locs hal hl hw
        refine va_newa (D := (dC, dI)) (cl := vwCl) (atype := atC 1) (ty := .byte) (a0 := (n.toNatClampNeg, .inl (fun _ => 0))) hx hb (hts _ arr_in.2.1) rfl hK hw.1 hw.2.1 hw.2.2 (fun q9 hq9 => Nat.le_trans hBs hq9) (fun _ => rfl) hnn.1 rfl (cb8 (ty := .byte) hnb (by decide)) hRc.1 hRc.2 hd (fun q9 cA H1 hK2 hP hD hS => ?_)
        have hcA : cA = dA 1 := fc_same (t := 1) (ty := .byte) hK rfl (hK2.2 7 (cA, .byte) rfl).2
        subst hcA
        have hpush : wsC dA (ad0 ++ ad1) hp ++ [(q9, .inl (dA 1, n.toNatClampNeg, .inl (fun _ => 0)))] = wsC dA ((ad0 ++ ad1) ++ [q9]) (hp ++ [.inr (1, n.toNatClampNeg, .inl (fun _ => 0))]) := ws_pushC hal hVH rfl
        rw [hpush] at hP hD
        rw [List.append_assoc] at hP hD
        have hst2 : (Sum.inr (0, hp.length) :: r : List AV).map (cvv (qa (ad0 ++ (ad1 ++ [q9])))) = .ref q9 :: r.map (cvv (qa (ad0 ++ ad1))) := by
          rw [← List.append_assoc, List.map_cons, map_more (by rw [hal]; exact hst.tail)]
          congr 1
          show Value.ref (((ad0 ++ ad1) ++ [q9]).getD hp.length 0) = _
          rw [getD_last _ _ hal]
        have K := hy (by simpa using hL.mono (Nat.le_succ _)) (by simpa using VA.ref (x := (0, hp.length)) (Nat.lt_succ_self _) (hst.tail.mono (Nat.le_succ _))) (hVH.push trivial) hlen (ad1 ++ [q9]) ls H1 locs (by rw [← List.append_assoc]; simp at hal ⊢; omega) (by rw [← List.append_assoc, lvs_more 0 (by rw [hal]; exact hL)]; exact hl) ⟨hP, hD, hS⟩
        simp only [hn] at K
        rw [hst2] at K
        exact K
      | 2, _, hs, hd =>
        cases hs
        intro hL hst hVH hlen ad1 ls H locs hal hl hw
        refine va_newa (D := (dC, dI)) (cl := vwCl) (atype := atC 2) (ty := .boolean) (a0 := (n.toNatClampNeg, .inl (fun _ => 0))) hx hb (hts _ arr_in.2.2.1) rfl hK hw.1 hw.2.1 hw.2.2 (fun q9 hq9 => Nat.le_trans hBs hq9) (fun _ => rfl) hnn.1 rfl (cb8 (ty := .boolean) hnb (by decide)) hRc.1 hRc.2 hd (fun q9 cA H1 hK2 hP hD hS => ?_)
        have hcA : cA = dA 2 := fc_same (t := 2) (ty := .boolean) hK rfl (hK2.2 7 (cA, .boolean) rfl).2
        subst hcA
        have hpush : wsC dA (ad0 ++ ad1) hp ++ [(q9, .inl (dA 2, n.toNatClampNeg, .inl (fun _ => 0)))] = wsC dA ((ad0 ++ ad1) ++ [q9]) (hp ++ [.inr (2, n.toNatClampNeg, .inl (fun _ => 0))]) := ws_pushC hal hVH rfl
        rw [hpush] at hP hD
        rw [List.append_assoc] at hP hD
        have hst2 : (Sum.inr (0, hp.length) :: r : List AV).map (cvv (qa (ad0 ++ (ad1 ++ [q9])))) = .ref q9 :: r.map (cvv (qa (ad0 ++ ad1))) := by
          rw [← List.append_assoc, List.map_cons, map_more (by rw [hal]; exact hst.tail)]
          congr 1
          show Value.ref (((ad0 ++ ad1) ++ [q9]).getD hp.length 0) = _
          rw [getD_last _ _ hal]
        have K := hy (by simpa using hL.mono (Nat.le_succ _)) (by simpa using VA.ref (x := (0, hp.length)) (Nat.lt_succ_self _) (hst.tail.mono (Nat.le_succ _))) (hVH.push trivial) hlen (ad1 ++ [q9]) ls H1 locs (by rw [← List.append_assoc]; simp at hal ⊢; omega) (by rw [← List.append_assoc, lvs_more 0 (by rw [hal]; exact hL)]; exact hl) ⟨hP, hD, hS⟩
        simp only [hn] at K
        rw [hst2] at K
        exact K
      | 3, _, hs, hd =>
        cases hs
        intro hL hst hVH hlen ad1 ls H locs hal hl hw
        refine va_newa (D := (dC, dI)) (cl := vwCl) (atype := atC 3) (ty := .long) (a0 := (n.toNatClampNeg, .inr (.inl (fun _ => 0)))) hx hb (hts _ arr_in.2.2.2) rfl hK hw.1 hw.2.1 hw.2.2 (fun q9 hq9 => Nat.le_trans hBs hq9) (fun _ => rfl) hnn.1 rfl (cb8 (ty := .long) hnb (by decide)) hRc.1 hRc.2 hd (fun q9 cA H1 hK2 hP hD hS => ?_)
        have hcA : cA = dA 3 := fc_same (t := 3) (ty := .long) hK rfl (hK2.2 7 (cA, .long) rfl).2
        subst hcA
        have hpush : wsC dA (ad0 ++ ad1) hp ++ [(q9, .inl (dA 3, n.toNatClampNeg, .inr (.inl (fun _ => 0))))] = wsC dA ((ad0 ++ ad1) ++ [q9]) (hp ++ [.inr (3, n.toNatClampNeg, .inr (.inl (fun _ => 0)))]) := ws_pushC hal hVH rfl
        rw [hpush] at hP hD
        rw [List.append_assoc] at hP hD
        have hst2 : (Sum.inr (0, hp.length) :: r : List AV).map (cvv (qa (ad0 ++ (ad1 ++ [q9])))) = .ref q9 :: r.map (cvv (qa (ad0 ++ ad1))) := by
          rw [← List.append_assoc, List.map_cons, map_more (by rw [hal]; exact hst.tail)]
          congr 1
          show Value.ref (((ad0 ++ ad1) ++ [q9]).getD hp.length 0) = _
          rw [getD_last _ _ hal]
        have K := hy (by simpa using hL.mono (Nat.le_succ _)) (by simpa using VA.ref (x := (0, hp.length)) (Nat.lt_succ_self _) (hst.tail.mono (Nat.le_succ _))) (hVH.push trivial) hlen (ad1 ++ [q9]) ls H1 locs (by rw [← List.append_assoc]; simp at hal ⊢; omega) (by rw [← List.append_assoc, lvs_more 0 (by rw [hal]; exact hL)]; exact hl) ⟨hP, hD, hS⟩
        simp only [hn] at K
        rw [hst2] at K
        exact K
      | t + 4, h9, _, _ => exact absurd h9 (by omega)
    · cases hs
  · cases hs
set_option maxHeartbeats 4000000 in
theorem cs_62 (XC : CxC p s m args meth cd dC dI dA B own bytes nL) (hCL : ∀ t ∈ CL, CLok t) (hRc : ∀ n : Int32, (∃ r, st = .inl (.int n) :: r) → mc + 1 ≤ R.cells ∧ ms + n.toNatClampNeg ≤ R.slots) (hd : decode bytes (pcA C ix) = .ok (ins, ln)) (ho : okC CT FL ML CL own C ix (pcA C ix, ln, 62, ins, a, b, c, e, v, w, ts, ks) = true) (hn : pcA C (ix + 1) = pcA C ix + ln)
    (hs : cmI 62 a b c v w (ix, L, st, hp, mc, ms) = some y) (hy : AC p l e0 R s m args below meth cd Q dC dI dA B nL C ad0 y) : AC p l e0 R s m args below meth cd Q dC dI dA B nL C ad0 (ix, L, st, hp, mc, ms) := by
  obtain ⟨⟨hx, hb, hml, hr, hlk, hown, hts, hK, hNW⟩, hin, hBs, hAO1, hAO2, hAO3⟩ := XC
  simp only [okC] at ho
  split at ho
  · rename_i idx
    simp only [Bool.and_eq_true, decide_eq_true_eq] at ho
    obtain ⟨⟨⟨rfl, hCe⟩, hcn⟩, ha4⟩ := ho
    obtain ⟨⟨Cn, T, N⟩, hc, hcl, hinst, hini⟩ := hCL _ (List.mem_of_getElem? hCe)
    simp only at hc
    rw [hc] at hcn
    have hcn : Cn = oaC a := Option.some.inj hcn
    subst hcn
    simp only [cmI] at hs
    split at hs
    · rename_i n r
      split at hs
      · rename_i hnn
        have hnb : n.toNatClampNeg < 1000 := by
          have h1 := Int32.lt_iff_toInt_lt.mp hnn.2
          have h2 : (1000 : Int32).toInt = 1000 := by decide
          have h3 : n.toNatClampNeg = n.toInt.toNat := rfl
          omega
        have hRc := hRc n ⟨r, rfl⟩
        cases hs
        intro hL hst hVH hlen ad1 ls H locs hal hl hw
        have hAO : va_AO (oaC a) s ∧ (tysOf dA)[a]? = some (dA a, .object (oaC a)) := by
          match a, ha4 with
          | 4, _ => exact ⟨hAO1, rfl⟩
          | 5, _ => exact ⟨hAO2, rfl⟩
          | 6, _ => exact ⟨hAO3, rfl⟩
          | 0, h9 => exact absurd h9.1 (by omega)
          | 1, h9 => exact absurd h9.1 (by omega)
          | 2, h9 => exact absurd h9.1 (by omega)
          | 3, h9 => exact absurd h9.1 (by omega)
          | t + 7, h9 => exact absurd h9.2 (by omega)
        refine va_newq (D := (dC, dI)) (cl := vwCl) hx hb hown (hts _ hcl) hAO.1 hK hw.1 hw.2.1 hw.2.2 (fun q9 hq9 => Nat.le_trans hBs hq9) hnn.1 rfl (by omega) hRc.1 hRc.2 hd (fun q9 cA H1 hK2 hP hD hS => ?_)
        have hcA : cA = dA a := fc_same (t := a) (ty := .object (oaC a)) hK hAO.2 (hK2.2 7 (cA, .object (oaC a)) rfl).2
        subst hcA
        have hpush : wsC dA (ad0 ++ ad1) hp ++ [(q9, .inl (dA a, n.toNatClampNeg, .inr (.inr (.inr (.inr (fun _ => none))))))] = wsC dA ((ad0 ++ ad1) ++ [q9]) (hp ++ [.inr (a, n.toNatClampNeg, .inr (.inr (fun _ => none)))]) := ws_pushC hal hVH rfl
        rw [hpush] at hP hD
        rw [List.append_assoc] at hP hD
        have hst2 : (Sum.inr (0, hp.length) :: r : List AV).map (cvv (qa (ad0 ++ (ad1 ++ [q9])))) = .ref q9 :: r.map (cvv (qa (ad0 ++ ad1))) := by
          rw [← List.append_assoc, List.map_cons, map_more (by rw [hal]; exact hst.tail)]
          congr 1
          show Value.ref (((ad0 ++ ad1) ++ [q9]).getD hp.length 0) = _
          rw [getD_last _ _ hal]
        have K := hy (by simpa using hL.mono (Nat.le_succ _)) (by simpa using VA.ref (x := (0, hp.length)) (Nat.lt_succ_self _) (hst.tail.mono (Nat.le_succ _))) (hVH.push (fun j p hp => by cases hp)) hlen (ad1 ++ [q9]) ls H1 locs (by rw [← List.append_assoc]; simp at hal ⊢; omega) (by rw [← List.append_assoc, lvs_more 0 (by rw [hal]; exact hL)]; exact hl) ⟨hP, hD, hS⟩
        simp only [hn] at K
        rw [hst2] at K
        exact K
      · cases hs
    · cases hs
  · cases ho
set_option maxHeartbeats 4000000 in
theorem cs_63 (XC : CxC p s m args meth cd dC dI dA B own bytes nL) (hd : decode bytes (pcA C ix) = .ok (ins, ln)) (ho : okC CT FL ML CL own C ix (pcA C ix, ln, 63, ins, a, b, c, e, v, w, ts, ks) = true) (hn : pcA C (ix + 1) = pcA C ix + ln)
    (hs : cmI 63 a b c v w (ix, L, st, hp, mc, ms) = some y) (hy : AC p l e0 R s m args below meth cd Q dC dI dA B nL C ad0 y) : AC p l e0 R s m args below meth cd Q dC dI dA B nL C ad0 (ix, L, st, hp, mc, ms) := by
  obtain ⟨⟨hx, hb, hml, hr, hlk, hown, hts, hK, hNW⟩, hin, hBs, hAO1, hAO2, hAO3⟩ := XC
  simp only [okC, Bool.and_eq_true, decide_eq_true_eq] at ho
  obtain ⟨⟨⟨rfl, rfl⟩, hcn⟩, ha4⟩ := ho
  simp only [cmI] at hs
  split at hs
  · rename_i k1 pv j k0 p0 r
    split at hs
    · rename_i t n f ci vs hk hkv
      split at hs
      · rename_i hcond
        obtain ⟨hin9, rfl, rfl⟩ := hcond
        cases hs
        intro hL hst hVH hlen ad1 ls H locs hal hl hw
        have hp0 : p0 < hp.length := hst.tail.tail.hd
        have hpv : pv < hp.length := hst.hd
        have hws := wsC_get (dA := dA) hal hp0
        rw [hk] at hws
        have hwv := wsC_get (dA := dA) hal hpv
        rw [hkv] at hwv
        have hve := hVH.at hp0
        rw [hk] at hve
        have hty : (tysOf dA)[t]? = some (dA t, .object (oaC t)) := by
          match t, ha4 with
          | 4, _ => rfl
          | 5, _ => rfl
          | 6, _ => rfl
          | 0, h9 => exact absurd h9.1 (by omega)
          | 1, h9 => exact absurd h9.1 (by omega)
          | 2, h9 => exact absurd h9.1 (by omega)
          | 3, h9 => exact absurd h9.1 (by omega)
          | t + 7, h9 => exact absurd h9.2 (by omega)
        cases hvc : vwCl[ci]? with
        | none => rw [hvc] at hcn; cases hcn
        | some rc =>
        rw [hvc] at hcn
        have hcn : rc.1 = oaC t := Option.some.inj hcn
        rw [← hcn] at hty
        refine va_astq (D := (dC, dI)) (cl := vwCl) hx hb hK hw.1 hw.2.1 hw.2.2 p0 t pv ci hws hty hwv hvc (inb_vp hin9) hd (fun H1 locs1 hP hD hS => ?_)
        have hset : (wsC dA (ad0 ++ ad1) hp).set p0 ((ad0 ++ ad1).getD p0 0, .inl (dA t, n, .inr (.inr (.inr (.inr (va_up (fun j => (f j).map (fun p => (ad0 ++ ad1).getD p 0)) j.toNatClampNeg (some ((ad0 ++ ad1).getD pv 0)))))))) = wsC dA (ad0 ++ ad1) (hp.set p0 (.inr (t, n, .inr (.inr (va_up f j.toNatClampNeg (some pv)))))) := wsC_set hal hp0 (by
          refine congrArg (fun g => (Sum.inl (dA t, n, .inr (.inr (.inr (.inr g)))) : va_E)) (funext fun i => ?_)
          unfold va_up
          split <;> rfl)
        rw [hset] at hP hD
        have K := hy (by simpa using hL) (by simpa using hst.tail.tail.tail) (hVH.set (show VE hp.length (.inr (t, n, .inr (.inr (va_up f j.toNatClampNeg (some pv))))) from fun i p hi => by
          unfold va_up at hi
          split at hi
          · cases hi; exact hpv
          · exact hve i p hi)) hlen ad1 ls H1 locs1 (by simpa using hal) hl ⟨hP, hD, hS⟩
        simp only [hn] at K
        exact K
      · cases hs
    · cases hs
  · cases hs
-- OPS END
end CM
