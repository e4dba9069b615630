/-! ===== what the constructors leave, as a world of the abstract machine ===== -/
def posW (wl : List (Nat × Nat)) (k i : Nat) : Nat := wl.idxOf (k, i)
def h0of (wl : List (Nat × Nat)) (hp : List CE) : AH := (fun k i j => match hnth hp (posW wl k i) with
  | .inl (_, vs) => (match nth vs j with
    | .inl (.int x) => x
    | _ => 0)
  | .inr (_, _, .inl f) => f j
  | _ => 0, fun k i j => match hnth hp (posW wl k i) with
  | .inl (_, vs) => (match nth vs j with
    | .inl (.long x) => x
    | _ => 0)
  | .inr (_, _, .inr (.inl f)) => f j
  | _ => 0)
def qW (wl : List (Nat × Nat)) (ad : List Nat) : Nat → Nat → Nat := fun k i => ad.getD (posW wl k i) 0
def fB (wl : List (Nat × Nat)) (i : Nat) (f : FE) (v : AV) : Bool := match f, v with
  | .inl 0, .inl (.int _) => true
  | .inl 2, .inl (.int _) => true
  | .inl 1, .inl (.long _) => true
  | .inr (k2, 0, _), .inr (_, p2) => decide (p2 = posW wl k2 i)
  | .inr (k2, 1, i2), .inr (_, p2) => decide (p2 = posW wl k2 i2)
  | _, _ => false
def shB (wl : List (Nat × Nat)) (hp : List CE) (p : Nat) : Bool := match wl[p]? with
  | some (k, i) => decide (posW wl k i = p) && (match kd k, hnth hp p with
    | .inr (ci, fs), .inl (cj, vs) => decide (ci = cj) && decide (fs.length = vs.length) && (List.range fs.length).all (fun j => fB wl i (fnth fs j) (nth vs j))
    | .inl (t, n, _), .inr (t2, n2, .inl _) => decide (t < 3) && decide (t = t2) && decide (n = n2)
    | .inl (t, n, _), .inr (t2, n2, .inr (.inl _)) => decide (t = 3) && decide (t = t2) && decide (n = n2)
    | .inl (t, n, k2), .inr (t2, n2, .inr (.inr f)) => decide (3 < t) && decide (t < 7) && decide (t = t2) && decide (n = n2) && (List.range n).all (fun j => decide (f j = some (posW wl k2 j)))
    | _, _ => false)
  | none => false
theorem shX : (List.range WLX.length).all (shB WLX hpX) = true := by decide +kernel
theorem shM : (List.range WLM.length).all (shB WLM hpM) = true := by decide +kernel
theorem lnX : hpX.length = WLX.length := by decide +kernel
theorem lnM : hpM.length = WLM.length := by decide +kernel
theorem fB_val {wl : List (Nat × Nat)} {ad : List Nat} {hp : List CE} {k i j ci : Nat} {f : FE} {vs : List AV} (hh : hnth hp (posW wl k i) = .inl (ci, vs)) (h : fB wl i f (nth vs j) = true) : fv1 (qW wl ad) (h0of wl hp) k i j f = cvv (qa ad) (nth vs j) := by
  unfold fB at h
  split at h
  · rename_i x hx
    show Value.int ((h0of wl hp).1 k i j) = _
    rw [hx]
    simp only [h0of, hh, hx]
    rfl
  · rename_i x hx
    show Value.int ((h0of wl hp).1 k i j) = _
    rw [hx]
    simp only [h0of, hh, hx]
    rfl
  · rename_i x hx
    show Value.long ((h0of wl hp).2 k i j) = _
    rw [hx]
    simp only [h0of, hh, hx]
    rfl
  · rename_i k2 z y p2 hx
    rw [hx]
    simp only [decide_eq_true_eq] at h
    show Value.ref (ad.getD (posW wl k2 i) 0) = Value.ref (ad.getD p2 0)
    rw [h]
  · rename_i k2 i2 y p2 hx
    rw [hx]
    simp only [decide_eq_true_eq] at h
    show Value.ref (ad.getD (posW wl k2 i2) 0) = Value.ref (ad.getD p2 0)
    rw [h]
  · cases h
theorem arrV_congr {cI : ClassId} {n : Nat} {f g : Nat → Value} (h : ∀ j, j < n → f j = g j) : arrV cI n f = arrV cI n g := by
  unfold arrV
  congr 1
  apply Array.ext
  · simp
  · intro i h1 h2
    simp at h1 ⊢
    exact h i h1
theorem ws_conv {D : va_G} {dA : Nat → ClassId} {wl : List (Nat × Nat)} {hp : List CE} {ad : List Nat} {H : Heap} (hsh : (List.range wl.length).all (shB wl hp) = true) (hl : hp.length = wl.length) (had : ad.length = hp.length) (hP : va_P D vwCl (wsC dA ad hp) H) : va_P D vwCl (wsOf dA (qW wl ad) wl (h0of wl hp)) H := by
  intro p x hx
  rw [wsOf, List.getElem?_map] at hx
  cases hw : wl[p]? with
  | none => rw [hw] at hx; cases hx
  | some ki =>
    obtain ⟨k, i⟩ := ki
    rw [hw] at hx
    cases hx
    have hlt : p < wl.length := (List.getElem?_eq_some_iff.mp hw).1
    have h1 := List.all_eq_true.mp hsh p (List.mem_range.mpr hlt)
    unfold shB at h1
    rw [hw] at h1
    simp only [Bool.and_eq_true, decide_eq_true_eq] at h1
    obtain ⟨hpos, h1⟩ := h1
    have hat := hP p _ (wsC_get had (by omega))
    have hq : qW wl ad k i = ad.getD p 0 := by unfold qW; rw [hpos]
    show va_at D vwCl (qW wl ad k i, ent dA (qW wl ad) (h0of wl hp) k i) H
    rw [hq]
    split at h1
    · rename_i ci fs cj vs hk hh
      simp only [Bool.and_eq_true, decide_eq_true_eq] at h1
      obtain ⟨⟨rfl, hlen⟩, hall⟩ := h1
      rw [hh] at hat
      rw [ent_obj hk]
      have e : fvs (qW wl ad) (h0of wl hp) k i 0 fs = vs.map (cvv (qa ad)) := by
        apply List.ext_getElem?
        intro j
        by_cases hj : j < fs.length
        · rw [fvs_get _ _ _ _ _ _ _ hj, List.getElem?_map, nth_get (by omega), Nat.zero_add]
          have := List.all_eq_true.mp hall j (List.mem_range.mpr hj)
          show some _ = some _
          rw [fB_val (by rw [hpos]; exact hh) this]
        · rw [List.getElem?_eq_none (by rw [fvs_len]; omega), List.getElem?_eq_none (by rw [List.length_map]; omega)]
      rw [e]
      exact hat
    · rename_i t n z t2 n2 f hk hh
      simp only [Bool.and_eq_true, decide_eq_true_eq] at h1
      obtain ⟨⟨ht, rfl⟩, rfl⟩ := h1
      rw [hh] at hat
      have e : (h0of wl hp).1 k i = f := by
        funext j
        simp only [h0of, hpos, hh]
      match t, ht, hk, hat with
      | 0, _, hk, hat => rw [ent_0 hk, e]; exact hat
      | 1, _, hk, hat => rw [ent_1 hk, e]; exact hat
      | 2, _, hk, hat => rw [ent_2 hk, e]; exact hat
      | t + 3, h9, _, _ => exact absurd h9 (by omega)
    · rename_i t n z t2 n2 f hk hh
      simp only [Bool.and_eq_true, decide_eq_true_eq] at h1
      obtain ⟨⟨rfl, rfl⟩, rfl⟩ := h1
      rw [hh] at hat
      have e : (h0of wl hp).2 k i = f := by
        funext j
        simp only [h0of, hpos, hh]
      rw [ent_3 hk, e]
      exact hat
    · rename_i t n k2 t2 n2 f hk hh
      simp only [Bool.and_eq_true, decide_eq_true_eq] at h1
      obtain ⟨⟨⟨⟨h3, h7⟩, rfl⟩, rfl⟩, hall⟩ := h1
      rw [hh] at hat
      have e : vp_cell (dA t) (n, .inr (.inr (.inr (.inr (fun j => (f j).map (fun p => ad.getD p 0)))))) = vp_cell (dA t) (n, .inr (.inr (.inr (.inr (fun j => some (qW wl ad k2 j)))))) := by
        rw [vp_cell_q, vp_cell_q]
        refine arrV_congr fun j hj => ?_
        have h9 := List.all_eq_true.mp hall j (List.mem_range.mpr hj)
        simp only [decide_eq_true_eq] at h9
        rw [h9]
        rfl
      have hat : H[ad.getD p 0]? = some (vp_cell (dA t) (n, .inr (.inr (.inr (.inr (fun j => (f j).map (fun p => ad.getD p 0))))))) := hat
      rw [e] at hat
      match t, h3, h7, hk, hat with
      | 4, _, _, hk, hat => rw [ent_4 hk]; exact hat
      | 5, _, _, hk, hat => rw [ent_5 hk]; exact hat
      | 6, _, _, hk, hat => rw [ent_6 hk]; exact hat
      | 0, h9, _, _, _ => exact absurd h9 (by omega)
      | 1, h9, _, _, _ => exact absurd h9 (by omega)
      | 2, h9, _, _, _ => exact absurd h9 (by omega)
      | 3, h9, _, _, _ => exact absurd h9 (by omega)
      | t + 7, _, h9, _, _ => exact absurd h9 (by omega)
    · cases h1
theorem ws_convD {A : Nat → Prop} {dA : Nat → ClassId} {wl : List (Nat × Nat)} {hp : List CE} {ad : List Nat} (hsh : (List.range wl.length).all (shB wl hp) = true) (hl : hp.length = wl.length) (had : ad.length = hp.length) (hD : va_D A (wsC dA ad hp)) : va_D A (wsOf dA (qW wl ad) wl (h0of wl hp)) := by
  have key : ∀ (p : Nat) (x : Nat × va_E), (wsOf dA (qW wl ad) wl (h0of wl hp))[p]? = some x → ∃ y : Nat × va_E, (wsC dA ad hp)[p]? = some y ∧ y.1 = x.1 := by
    intro p x hx
    rw [wsOf, List.getElem?_map] at hx
    cases hw : wl[p]? with
    | none => rw [hw] at hx; cases hx
    | some ki =>
      obtain ⟨k, i⟩ := ki
      rw [hw] at hx
      cases hx
      have hlt : p < wl.length := (List.getElem?_eq_some_iff.mp hw).1
      have h1 := List.all_eq_true.mp hsh p (List.mem_range.mpr hlt)
      unfold shB at h1
      rw [hw] at h1
      simp only [Bool.and_eq_true, decide_eq_true_eq] at h1
      refine ⟨_, wsC_get had (by omega), ?_⟩
      show ad.getD p 0 = ad.getD (posW wl k i) 0
      rw [h1.1]
  refine ⟨fun i j x y hi hj hxy => ?_, fun i x hi => ?_⟩
  · obtain ⟨x0, h1, h2⟩ := key i x hi
    obtain ⟨y0, h3, h4⟩ := key j y hj
    exact hD.1 i j x0 y0 h1 h3 (h2.trans (hxy.trans h4.symm))
  · obtain ⟨x0, h1, h2⟩ := key i x hi
    rw [← h2]
    exact hD.2 i x0 h1
def h0X : AH := h0of WLX hpX
def h0M : AH := h0of WLM hpM
