/-! ===== the abstract cells as a world of the kit ===== -/
def cvv (q : Nat → Nat → Nat) (v : AV) : Value := match v with
  | .inl x => x
  | .inr (k, i) => .ref (q k i)
def fv1 (q : Nat → Nat → Nat) (h : AH) (k i j : Nat) (f : FE) : Value := match f with
  | .inl 1 => .long (h.2 k i j)
  | .inl _ => .int (h.1 k i j)
  | .inr (k2, 0, _) => .ref (q k2 i)
  | .inr (k2, _, i2) => .ref (q k2 i2)
def fvs (q : Nat → Nat → Nat) (h : AH) (k i : Nat) : Nat → List FE → List Value
  | _, [] => []
  | j, f :: r => fv1 q h k i j f :: fvs q h k i (j + 1) r
def ent (dA : Nat → ClassId) (q : Nat → Nat → Nat) (h : AH) (k i : Nat) : va_E := match kd k with
  | .inl (3, n, _) => .inl (dA 3, n, .inr (.inl (h.2 k i)))
  | .inl (4, n, k2) => .inl (dA 4, n, .inr (.inr (.inr (.inr (fun j => some (q k2 j))))))
  | .inl (5, n, k2) => .inl (dA 5, n, .inr (.inr (.inr (.inr (fun j => some (q k2 j))))))
  | .inl (6, n, k2) => .inl (dA 6, n, .inr (.inr (.inr (.inr (fun j => some (q k2 j))))))
  | .inl (t, n, _) => .inl (dA t, n, .inl (h.1 k i))
  | .inr (ci, fs) => .inr (ci, fvs q h k i 0 fs)
def wsOf (dA : Nat → ClassId) (q : Nat → Nat → Nat) (wl : List (Nat × Nat)) (h : AH) : va_W := wl.map (fun p => (q p.1 p.2, ent dA q h p.1 p.2))
def tysOf (dA : Nat → ClassId) : List (ClassId × FieldType) := [(dA 0, .int), (dA 1, .byte), (dA 2, .boolean), (dA 3, .long), (dA 4, .object "WhyRoom$Row"), (dA 5, .object "WhyRoom$Text"), (dA 6, .object "WhyRoom$State")]
def cloB (wl : List (Nat × Nat)) (x : Nat × Nat) : Bool := match kd x.1 with
  | .inl (t, n, k2) => !(Nat.ble 4 t) || (List.range n).all (fun j => decide ((k2, j) ∈ wl))
  | .inr (_, fs) => fs.all (fun f => match f with
    | .inr (k2, 0, _) => decide ((k2, x.2) ∈ wl)
    | .inr (k2, _, i2) => decide ((k2, i2) ∈ wl)
    | .inl _ => true)
def WOK (wl : List (Nat × Nat)) : Prop := wl.Nodup ∧ ∀ x ∈ wl, cloB wl x = true
def VO (wl : List (Nat × Nat)) (l : List AV) : Prop := (∀ r : Nat × Nat, Sum.inr r ∈ l → r ∈ wl) ∧ ∀ x, Sum.inl (Value.double x) ∉ l
def lvs (q : Nat → Nat → Nat) : Nat → List AV → List (Nat × Value)
  | _, [] => []
  | i, .inl .null :: r => lvs q (i + 1) r
  | i, v :: r => (i, cvv q v) :: lvs q (i + 1) r
theorem fvs_get (q : Nat → Nat → Nat) (h : AH) (k i : Nat) : ∀ (fs : List FE) (j b : Nat), b < fs.length → (fvs q h k i j fs)[b]? = some (fv1 q h k i (j + b) (fnth fs b))
  | [], _, b, hb => absurd hb (Nat.not_lt_zero b)
  | f :: r, j, 0, _ => rfl
  | f :: r, j, b + 1, hb => by
    show (fvs q h k i (j + 1) r)[b]? = _
    rw [fvs_get q h k i r (j + 1) b (Nat.lt_of_succ_lt_succ hb), show j + 1 + b = j + (b + 1) by omega]
    rfl
theorem fvs_len (q : Nat → Nat → Nat) (h : AH) (k i : Nat) : ∀ (fs : List FE) (j : Nat), (fvs q h k i j fs).length = fs.length
  | [], _ => rfl
  | f :: r, j => by simp [fvs, fvs_len q h k i r (j + 1)]
theorem fnth_lt {fs : List FE} {b : Nat} (h : fnth fs b ≠ .inl 9) : b < fs.length := by
  induction fs generalizing b with
  | nil => exact absurd rfl h
  | cons f r ih =>
    cases b with
    | zero => simp
    | succ b => simpa using ih h
theorem fvs_hs (q : Nat → Nat → Nat) {h : AH} {h2 : AH} {k i : Nat} (v : Value) (b : Nat) (hb1 : ∀ j, j ≠ b → h2.1 k i j = h.1 k i j ∧ h2.2 k i j = h.2 k i j) : ∀ (fs : List FE) (j0 c : Nat), b = j0 + c → (c < fs.length → fv1 q h2 k i b (fnth fs c) = v) → (fvs q h k i j0 fs).set c v = fvs q h2 k i j0 fs
  | [], _, _, _, _ => rfl
  | f :: r, j0, 0, hb, hv => by
    have e := hv (by simp)
    simp only [Nat.add_zero] at hb
    subst hb
    show v :: fvs q h k i (b + 1) r = fv1 q h2 k i b f :: fvs q h2 k i (b + 1) r
    rw [show fv1 q h2 k i b f = v from e]
    congr 1
    have key : ∀ (r : List FE) (j : Nat), b < j → fvs q h k i j r = fvs q h2 k i j r := by
      intro r
      induction r with
      | nil => intro j _; rfl
      | cons f r ih =>
        intro j hj
        show fv1 q h k i j f :: fvs q h k i (j + 1) r = fv1 q h2 k i j f :: fvs q h2 k i (j + 1) r
        rw [ih (j + 1) (by omega)]
        obtain ⟨e1, e2⟩ := hb1 j (by omega)
        simp only [fv1, e1, e2]
    exact key r (b + 1) (by omega)
  | f :: r, j0, c + 1, hb, hv => by
    show fv1 q h k i j0 f :: (fvs q h k i (j0 + 1) r).set c v = fv1 q h2 k i j0 f :: fvs q h2 k i (j0 + 1) r
    rw [fvs_hs q v b hb1 r (j0 + 1) c (by omega) (fun hc => hv (by simpa using hc))]
    obtain ⟨e1, e2⟩ := hb1 j0 (by omega)
    simp only [fv1, e1, e2]
theorem fvs_eq (q : Nat → Nat → Nat) {h h2 : AH} {k i : Nat} (e1 : h2.1 k i = h.1 k i) (e2 : h2.2 k i = h.2 k i) : ∀ (fs : List FE) (j : Nat), fvs q h2 k i j fs = fvs q h k i j fs
  | [], _ => rfl
  | f :: r, j => by
    show fv1 q h2 k i j f :: fvs q h2 k i (j + 1) r = fv1 q h k i j f :: fvs q h k i (j + 1) r
    rw [fvs_eq q e1 e2 r (j + 1)]
    simp only [fv1, e1, e2]
theorem ent_eq (dA : Nat → ClassId) (q : Nat → Nat → Nat) {h h2 : AH} {k i : Nat} (e1 : h2.1 k i = h.1 k i) (e2 : h2.2 k i = h.2 k i) : ent dA q h2 k i = ent dA q h k i := by
  unfold ent
  split <;> first | rfl | (simp only [e1, e2]; done) | (rw [fvs_eq q e1 e2])
theorem ws_get {dA : Nat → ClassId} {q : Nat → Nat → Nat} {wl : List (Nat × Nat)} {k i : Nat} (h : AH) (hm : (k, i) ∈ wl) : ∃ p : Nat, wl[p]? = some (k, i) ∧ (wsOf dA q wl h)[p]? = some (q k i, ent dA q h k i) := by
  obtain ⟨p, hp⟩ := List.getElem?_of_mem hm
  exact ⟨p, hp, by rw [wsOf, List.getElem?_map, hp]; rfl⟩
theorem ws_set {dA : Nat → ClassId} {q : Nat → Nat → Nat} {wl : List (Nat × Nat)} {k i p : Nat} {h h2 : AH} (hn : wl.Nodup) (hp : wl[p]? = some (k, i)) {e : va_E} (he : e = ent dA q h2 k i) (ho : ∀ a b, (a, b) ≠ (k, i) → h2.1 a b = h.1 a b ∧ h2.2 a b = h.2 a b) : (wsOf dA q wl h).set p (q k i, e) = wsOf dA q wl h2 := by
  subst he
  have hl := (List.getElem?_eq_some_iff.mp hp).1
  apply List.ext_getElem?
  intro n
  by_cases hnp : n = p
  · subst hnp
    rw [List.getElem?_set_self (by simpa [wsOf] using hl), wsOf, List.getElem?_map, hp]
    rfl
  · rw [List.getElem?_set_ne (Ne.symm hnp), wsOf, wsOf, List.getElem?_map, List.getElem?_map]
    cases hx : wl[n]? with
    | none => rfl
    | some x =>
      obtain ⟨a, b⟩ := x
      have hne : (a, b) ≠ (k, i) := by
        intro hh
        apply hnp
        rw [hh] at hx
        have l1 := (List.getElem?_eq_some_iff.mp hx)
        have l2 := (List.getElem?_eq_some_iff.mp hp)
        have hne := List.pairwise_iff_getElem.mp hn
        rcases Nat.lt_trichotomy n p with hlt | heq | hlt
        · exact absurd (l1.2.trans l2.2.symm) (hne n p l1.1 l2.1 hlt)
        · exact heq
        · exact absurd (l2.2.trans l1.2.symm) (hne p n l2.1 l1.1 hlt)
      obtain ⟨e1, e2⟩ := ho a b hne
      show some (q a b, ent dA q h a b) = some (q a b, ent dA q h2 a b)
      rw [ent_eq dA q e1 e2]
theorem ws_D {dA : Nat → ClassId} {q : Nat → Nat → Nat} {wl : List (Nat × Nat)} {A : Nat → Prop} {h h2 : AH} (hD : va_D A (wsOf dA q wl h)) : va_D A (wsOf dA q wl h2) := by
  have key : ∀ (i : Nat) (x : Nat × va_E), (wsOf dA q wl h2)[i]? = some x → ∃ y : Nat × va_E, (wsOf dA q wl h)[i]? = some y ∧ y.1 = x.1 := by
    intro i x hx
    rw [wsOf, List.getElem?_map] at hx ⊢
    cases hw : wl[i]? with
    | none => rw [hw] at hx; cases hx
    | some z =>
      rw [hw] at hx
      cases hx
      exact ⟨_, rfl, rfl⟩
  refine ⟨fun i j x y hi hj hxy => ?_, fun i x hi => ?_⟩
  · obtain ⟨x0, h1, h2⟩ := key i x hi
    obtain ⟨y0, h3, h4⟩ := key j y hj
    exact hD.1 i j x0 y0 h1 h3 (h2.trans (hxy.trans h4.symm))
  · obtain ⟨x0, h1, h2⟩ := key i x hi
    rw [← h2]
    exact hD.2 i x0 h1
/-! the locals -/
theorem lvs_of {q : Nat → Nat → Nat} : ∀ (L : List AV) (i0 n : Nat), nth L n ≠ av0 → (i0 + n, cvv q (nth L n)) ∈ lvs q i0 L
  | [], _, _, h => absurd rfl h
  | v :: r, i0, 0, h => by
    have h : v ≠ av0 := h
    cases v with
    | inl x => cases x <;> first | (exact absurd rfl h) | (exact List.mem_cons_self)
    | inr x => exact List.mem_cons_self
  | v :: r, i0, n + 1, h => by
    have ih := lvs_of (q := q) r (i0 + 1) n h
    rw [show i0 + (n + 1) = i0 + 1 + n by omega]
    show (i0 + 1 + n, cvv q (nth r n)) ∈ lvs q i0 (v :: r)
    cases v with
    | inl x => cases x <;> first | exact ih | exact List.mem_cons_of_mem _ ih
    | inr x => exact List.mem_cons_of_mem _ ih
theorem lvs_in {q : Nat → Nat → Nat} : ∀ (L : List AV) (i0 j : Nat) (w : Value), (j, w) ∈ lvs q i0 L → ∃ n, j = i0 + n ∧ nth L n ≠ av0 ∧ w = cvv q (nth L n)
  | [], _, _, _, h => by cases h
  | v :: r, i0, j, w, h => by
    have tl : (j, w) ∈ lvs q (i0 + 1) r → ∃ n, j = i0 + n ∧ nth (v :: r) n ≠ av0 ∧ w = cvv q (nth (v :: r) n) := by
      intro h
      obtain ⟨n, e1, e2, e3⟩ := lvs_in r (i0 + 1) j w h
      exact ⟨n + 1, by omega, e2, e3⟩
    have hd : v ≠ av0 → (j, w) ∈ (i0, cvv q v) :: lvs q (i0 + 1) r → ∃ n, j = i0 + n ∧ nth (v :: r) n ≠ av0 ∧ w = cvv q (nth (v :: r) n) := by
      intro hv h
      rcases List.mem_cons.mp h with h | h
      · cases h
        exact ⟨0, rfl, hv, rfl⟩
      · exact tl h
    cases v with
    | inl x => cases x <;> first | exact tl h | exact hd (by simp) h
    | inr x => exact hd (by simp) h
theorem nth_lt {L : List AV} {n : Nat} (h : nth L n ≠ av0) : n < L.length := by
  induction L generalizing n with
  | nil => exact absurd rfl h
  | cons v r ih =>
    cases n with
    | zero => simp
    | succ n => simpa using ih h
theorem nth_mem {L : List AV} {n : Nat} (h : nth L n ≠ av0) : nth L n ∈ L := by
  induction L generalizing n with
  | nil => exact absurd rfl h
  | cons v r ih =>
    cases n with
    | zero => exact List.mem_cons_self
    | succ n => exact List.mem_cons_of_mem _ (ih h)
theorem lv_nth {q : Nat → Nat → Nat} {ls : Array Slot} {nL : Nat} {L : List AV} {a : Nat} (hl : lv_has ls nL (lvs q 0 L)) (h : nth L a ≠ av0) : ls[a]? = some (.val (cvv q (nth L a))) := by
  have := hl.2.2 _ (lvs_of (q := q) L 0 a h)
  simpa using this
theorem lv_less {ls : Array Slot} {nL : Nat} {l l2 : List (Nat × Value)} (h : lv_has ls nL l) (hs : ∀ x ∈ l2, x ∈ l) : lv_has ls nL l2 := ⟨h.1, h.2.1, fun x hx => h.2.2 x (hs x hx)⟩
theorem st1_nth : ∀ (L : List AV) (i : Nat) (v : AV) (n : Nat), nth (st1 L i v) n ≠ av0 → (n = i ∧ nth (st1 L i v) n = v) ∨ (n ≠ i ∧ nth (st1 L i v) n = nth L n ∧ (n + 1 = i → kil (nth L n) = nth L n))
  | [], _, _, _, h => absurd rfl h
  | a :: r, 0, v, 0, h => Or.inl ⟨rfl, rfl⟩
  | a :: r, 0, v, n + 1, h => Or.inr ⟨by omega, rfl, by omega⟩
  | a :: r, 1, v, 0, h => by
    refine Or.inr ⟨by omega, ?_, fun _ => ?_⟩ <;>
    · have h : kil a ≠ av0 := h
      show kil a = a
      unfold kil at h ⊢
      split
      · exact absurd rfl h
      · rfl
  | a :: r, 1, v, n + 1, h => by
    rcases st1_nth r 0 v n h with ⟨e, e2⟩ | ⟨e, e2, e3⟩
    · exact Or.inl ⟨by omega, e2⟩
    · exact Or.inr ⟨by omega, e2, by omega⟩
  | a :: r, i + 2, v, 0, h => Or.inr ⟨by omega, rfl, by omega⟩
  | a :: r, i + 2, v, n + 1, h => by
    rcases st1_nth r (i + 1) v n h with ⟨e, e2⟩ | ⟨e, e2, e3⟩
    · exact Or.inl ⟨by omega, e2⟩
    · exact Or.inr ⟨by omega, e2, fun hh => e3 (by omega)⟩
theorem kil_cat {v : AV} (q : Nat → Nat → Nat) (h : kil v = v) (hv : v ≠ av0) (hd : ∀ x, v ≠ .inl (.double x)) : (cvv q v).category = 1 := by
  cases v with
  | inl x =>
    cases x <;> first | rfl | (exact absurd rfl hv) | (exact absurd rfl (hd _)) | skip
    unfold kil at h
    cases h
  | inr x => rfl
/-- no double in the locals -/
def nD (L : List AV) : Prop := ∀ x, Sum.inl (Value.double x) ∉ L
theorem lv_st1 {q : Nat → Nat → Nat} {ls : Array Slot} {nL i : Nat} {L : List AV} {v : AV} (hd : nD L) (h : lv_has ls nL ((i, cvv q v) :: (lvs q 0 L).filter (fun q => !(q.1 == i) && !(q.1 + 1 == i && q.2.category == 2)))) : lv_has ls nL (lvs q 0 (st1 L i v)) := by
  refine lv_less h fun x hx => ?_
  obtain ⟨j, w⟩ := x
  obtain ⟨n, e1, e2, e3⟩ := lvs_in _ _ _ _ hx
  rcases st1_nth L i v n e2 with ⟨f1, f2⟩ | ⟨f1, f2, f3⟩
  · rw [e3, f2, e1, f1, Nat.zero_add]
    exact List.mem_cons_self
  · refine List.mem_cons_of_mem _ (List.mem_filter.mpr ⟨?_, ?_⟩)
    · rw [e3, f2, e1]
      exact lvs_of L 0 n (by rw [← f2]; exact e2)
    · have hcat : n + 1 = i → (cvv q (nth L n)).category = 1 := fun hh => kil_cat q (f3 hh) (by rw [← f2]; exact e2) (fun y hy => hd y (by rw [← hy]; exact nth_mem (by rw [← f2]; exact e2)))
      rw [e3, f2, e1]
      simp only [Nat.zero_add, Bool.and_eq_true, Bool.not_eq_true', beq_eq_false_iff_ne, ne_eq, Bool.and_eq_false_imp, beq_iff_eq]
      exact ⟨f1, fun hh => by rw [hcat hh]; decide⟩
theorem st2_nth : ∀ (L : List AV) (i : Nat) (v : AV) (n : Nat), nth (st2 L i v) n ≠ av0 → (n = i ∧ nth (st2 L i v) n = v) ∨ (n ≠ i ∧ n ≠ i + 1 ∧ nth (st2 L i v) n = nth L n ∧ (n + 1 = i → kil (nth L n) = nth L n))
  | [], _, _, _, h => absurd rfl h
  | a :: r, 0, v, 0, h => Or.inl ⟨rfl, rfl⟩
  | a :: r, 0, v, n + 1, h => by
    rcases st1_nth r 0 av0 n h with ⟨e, e2⟩ | ⟨e, e2, e3⟩
    · exact absurd e2 h
    · exact Or.inr ⟨by omega, by omega, e2, by omega⟩
  | a :: r, 1, v, 0, h => by
    refine Or.inr ⟨by omega, by omega, ?_, fun _ => ?_⟩ <;>
    · have h : kil a ≠ av0 := h
      show kil a = a
      unfold kil at h ⊢
      split
      · exact absurd rfl h
      · rfl
  | a :: r, 1, v, n + 1, h => by
    rcases st2_nth r 0 v n h with ⟨e, e2⟩ | ⟨e, e1, e2, e3⟩
    · exact Or.inl ⟨by omega, e2⟩
    · exact Or.inr ⟨by omega, by omega, e2, by omega⟩
  | a :: r, i + 2, v, 0, h => Or.inr ⟨by omega, by omega, rfl, by omega⟩
  | a :: r, i + 2, v, n + 1, h => by
    rcases st2_nth r (i + 1) v n h with ⟨e, e2⟩ | ⟨e, e1, e2, e3⟩
    · exact Or.inl ⟨by omega, e2⟩
    · exact Or.inr ⟨by omega, by omega, e2, fun hh => e3 (by omega)⟩
theorem lv_st2 {q : Nat → Nat → Nat} {ls : Array Slot} {nL i : Nat} {L : List AV} {v : AV} (hd : nD L) (h : lv_has ls nL ((i, cvv q v) :: (lvs q 0 L).filter (fun q => !(q.1 == i) && (!(q.1 == i + 1) && !(q.1 + 1 == i && q.2.category == 2))))) : lv_has ls nL (lvs q 0 (st2 L i v)) := by
  refine lv_less h fun x hx => ?_
  obtain ⟨j, w⟩ := x
  obtain ⟨n, e1, e2, e3⟩ := lvs_in _ _ _ _ hx
  rcases st2_nth L i v n e2 with ⟨f1, f2⟩ | ⟨f1, f4, f2, f3⟩
  · rw [e3, f2, e1, f1, Nat.zero_add]
    exact List.mem_cons_self
  · refine List.mem_cons_of_mem _ (List.mem_filter.mpr ⟨?_, ?_⟩)
    · rw [e3, f2, e1]
      exact lvs_of L 0 n (by rw [← f2]; exact e2)
    · have hcat : n + 1 = i → (cvv q (nth L n)).category = 1 := fun hh => kil_cat q (f3 hh) (by rw [← f2]; exact e2) (fun y hy => hd y (by rw [← hy]; exact nth_mem (by rw [← f2]; exact e2)))
      rw [e3, f2, e1]
      simp only [Nat.zero_add, Bool.and_eq_true, Bool.not_eq_true', beq_eq_false_iff_ne, ne_eq, Bool.and_eq_false_imp, beq_iff_eq]
      exact ⟨f1, f4, fun hh => by rw [hcat hh]; decide⟩
theorem st1_mem {x v : AV} : ∀ {L : List AV} {i : Nat}, x ∈ st1 L i v → x = v ∨ x = av0 ∨ x ∈ L
  | [], _, h => by cases h
  | a :: r, 0, h => by
    rcases List.mem_cons.mp h with h | h
    · exact Or.inl h
    · exact Or.inr (Or.inr (List.mem_cons_of_mem _ h))
  | a :: r, 1, h => by
    rcases List.mem_cons.mp h with h | h
    · unfold kil at h
      split at h
      · exact Or.inr (Or.inl h)
      · rw [h]; exact Or.inr (Or.inr List.mem_cons_self)
    · rcases st1_mem h with h | h | h
      · exact Or.inl h
      · exact Or.inr (Or.inl h)
      · exact Or.inr (Or.inr (List.mem_cons_of_mem _ h))
  | a :: r, i + 2, h => by
    rcases List.mem_cons.mp h with h | h
    · rw [h]; exact Or.inr (Or.inr List.mem_cons_self)
    · rcases st1_mem h with h | h | h
      · exact Or.inl h
      · exact Or.inr (Or.inl h)
      · exact Or.inr (Or.inr (List.mem_cons_of_mem _ h))
theorem st2_mem {x v : AV} : ∀ {L : List AV} {i : Nat}, x ∈ st2 L i v → x = v ∨ x = av0 ∨ x ∈ L
  | [], _, h => by cases h
  | a :: r, 0, h => by
    rcases List.mem_cons.mp h with h | h
    · exact Or.inl h
    · rcases st1_mem h with h | h | h
      · exact Or.inr (Or.inl h)
      · exact Or.inr (Or.inl h)
      · exact Or.inr (Or.inr (List.mem_cons_of_mem _ h))
  | a :: r, 1, h => by
    rcases List.mem_cons.mp h with h | h
    · unfold kil at h
      split at h
      · exact Or.inr (Or.inl h)
      · rw [h]; exact Or.inr (Or.inr List.mem_cons_self)
    · rcases st2_mem h with h | h | h
      · exact Or.inl h
      · exact Or.inr (Or.inl h)
      · exact Or.inr (Or.inr (List.mem_cons_of_mem _ h))
  | a :: r, i + 2, h => by
    rcases List.mem_cons.mp h with h | h
    · rw [h]; exact Or.inr (Or.inr List.mem_cons_self)
    · rcases st2_mem h with h | h | h
      · exact Or.inl h
      · exact Or.inr (Or.inl h)
      · exact Or.inr (Or.inr (List.mem_cons_of_mem _ h))
theorem VO.st1 {wl : List (Nat × Nat)} {L : List AV} {i : Nat} {v : AV} (h : VO wl L) (hv : VO wl [v]) : VO wl (st1 L i v) := by
  refine ⟨fun r hr => ?_, fun x hx => ?_⟩
  · rcases st1_mem hr with e | e | e
    · exact hv.1 r (by rw [e]; exact List.mem_cons_self)
    · cases e
    · exact h.1 r e
  · rcases st1_mem hx with e | e | e
    · exact hv.2 x (by rw [e]; exact List.mem_cons_self)
    · cases e
    · exact h.2 x e
theorem VO.st2 {wl : List (Nat × Nat)} {L : List AV} {i : Nat} {v : AV} (h : VO wl L) (hv : VO wl [v]) : VO wl (st2 L i v) := by
  refine ⟨fun r hr => ?_, fun x hx => ?_⟩
  · rcases st2_mem hr with e | e | e
    · exact hv.1 r (by rw [e]; exact List.mem_cons_self)
    · cases e
    · exact h.1 r e
  · rcases st2_mem hx with e | e | e
    · exact hv.2 x (by rw [e]; exact List.mem_cons_self)
    · cases e
    · exact h.2 x e
theorem VO.tail {wl : List (Nat × Nat)} {v : AV} {l : List AV} (h : VO wl (v :: l)) : VO wl l := ⟨fun r hr => h.1 r (List.mem_cons_of_mem _ hr), fun x hx => h.2 x (List.mem_cons_of_mem _ hx)⟩
theorem VO.cons {wl : List (Nat × Nat)} {v : AV} {l : List AV} (h : VO wl [v]) (hl : VO wl l) : VO wl (v :: l) := by
  refine ⟨fun r hr => ?_, fun x hx => ?_⟩
  · rcases List.mem_cons.mp hr with e | e
    · exact h.1 r (by rw [e]; exact List.mem_cons_self)
    · exact hl.1 r e
  · rcases List.mem_cons.mp hx with e | e
    · exact h.2 x (by rw [e]; exact List.mem_cons_self)
    · exact hl.2 x e
theorem VO.int {wl : List (Nat × Nat)} {x : Int32} {l : List AV} (hl : VO wl l) : VO wl (.inl (.int x) :: l) := VO.cons ⟨fun r hr => by simp at hr, fun y hy => by simp at hy⟩ hl
theorem VO.long {wl : List (Nat × Nat)} {x : Int64} {l : List AV} (hl : VO wl l) : VO wl (.inl (.long x) :: l) := VO.cons ⟨fun r hr => by simp at hr, fun y hy => by simp at hy⟩ hl
theorem VO.ref {wl : List (Nat × Nat)} {x : Nat × Nat} {l : List AV} (hx : x ∈ wl) (hl : VO wl l) : VO wl (.inr x :: l) := VO.cons ⟨fun r hr => by simp at hr; rw [hr]; exact hx, fun y hy => by simp at hy⟩ hl
theorem VO.nil {wl : List (Nat × Nat)} : VO wl [] := ⟨fun _ h => absurd h List.not_mem_nil, fun _ h => absurd h List.not_mem_nil⟩
theorem VO.hd {wl : List (Nat × Nat)} {x : Nat × Nat} {l : List AV} (h : VO wl (.inr x :: l)) : x ∈ wl := h.1 x List.mem_cons_self
theorem set_nth {L : List AV} {k n : Nat} (h : nth (L.set k av0) n ≠ av0) : nth (L.set k av0) n = nth L n := by
  induction L generalizing k n with
  | nil => rfl
  | cons a r ih =>
    cases k with
    | zero =>
      cases n with
      | zero => exact absurd rfl h
      | succ n => rfl
    | succ k =>
      cases n with
      | zero => rfl
      | succ n => exact ih h
theorem lv_clr {q : Nat → Nat → Nat} {ls : Array Slot} {nL : Nat} : ∀ (ks : List Nat) {L : List AV}, lv_has ls nL (lvs q 0 L) → lv_has ls nL (lvs q 0 (clr ks L))
  | [], _, h => h
  | k :: ks, L, h => lv_clr ks (lv_less h fun x hx => by
    obtain ⟨j, w⟩ := x
    obtain ⟨n, e1, e2, e3⟩ := lvs_in _ _ _ _ hx
    have e4 := set_nth e2
    rw [e3, e1, e4]
    exact lvs_of L 0 n (by rw [← e4]; exact e2))
theorem VO.clr {wl : List (Nat × Nat)} : ∀ (ks : List Nat) {L : List AV}, VO wl L → VO wl (clr ks L)
  | [], _, h => h
  | k :: ks, L, h => VO.clr ks (by
    refine ⟨fun r hr => ?_, fun x hx => ?_⟩
    · rcases List.mem_or_eq_of_mem_set hr with e | e
      · exact h.1 r e
      · cases e
    · rcases List.mem_or_eq_of_mem_set hx with e | e
      · exact h.2 x e
      · cases e)
theorem clr_len : ∀ (ks : List Nat) (L : List AV), (clr ks L).length = L.length
  | [], _ => rfl
  | k :: ks, L => by simp [clr, clr_len ks]
theorem st1_len : ∀ (L : List AV) (i : Nat) (v : AV), (st1 L i v).length = L.length
  | [], _, _ => rfl
  | a :: r, 0, v => rfl
  | a :: r, 1, v => by simp [st1, st1_len r 0 v]
  | a :: r, i + 2, v => by simp [st1, st1_len r (i + 1) v]
theorem st2_len : ∀ (L : List AV) (i : Nat) (v : AV), (st2 L i v).length = L.length
  | [], _, _ => rfl
  | a :: r, 0, v => by simp [st2, st1_len]
  | a :: r, 1, v => by simp [st2, st2_len r 0 v]
  | a :: r, i + 2, v => by simp [st2, st2_len r (i + 1) v]
