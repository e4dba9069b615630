/-! ===== rows and texts ===== -/
theorem nI_mul (a b : Nat) : nI a * nI b = nI (a * b) := (Int32.ofNat_mul a b).symm
theorem ix40 (j i : Nat) : (40 : Int32) * nI j + nI i = nI (40 * j + i) := by
  show nI 40 * nI j + nI i = _
  rw [nI_mul, nI_add]
theorem ix80 (j i : Nat) : (80 : Int32) * nI j + nI i = nI (80 * j + i) := by
  show nI 80 * nI j + nI i = _
  rw [nI_mul, nI_add]
theorem inb_no {x : Int32} {n : Nat} (h : ¬ inb x n = true) : inb x n = false := by simpa using h
/-- what must stay of the class's heap, of the reference's heap, where only rows, texts and scratch change -/
def KX (h h2 : AH) : Prop := (∀ k, 8 ≤ k → k ≤ 10 → h2.1 k = h.1 k) ∧ (∀ k, 12 ≤ k → k ≤ 17 → h2.1 k 0 = h.1 k 0)
def KM (h h2 : AH) : Prop := (∀ k, 41 ≤ k → k ≤ 44 → h2.1 k = h.1 k) ∧ (∀ k, 49 ≤ k → k ≤ 54 → h2.1 k = h.1 k) ∧ (∀ c, (c = 10 ∨ c = 11 ∨ c = 16 ∨ c = 17 ∨ c = 18 ∨ c = 27) → h2.1 34 0 c = h.1 34 0 c)
theorem KX.rfl {h : AH} : KX h h := ⟨fun _ _ _ => Eq.refl _, fun _ _ _ => Eq.refl _⟩
theorem KM.rfl {h : AH} : KM h h := ⟨fun _ _ _ => Eq.refl _, fun _ _ _ => Eq.refl _, fun _ _ => Eq.refl _⟩
theorem KX.tr {a b c : AH} (h : KX a b) (g : KX b c) : KX a c := ⟨fun k h1 h2 => (g.1 k h1 h2).trans (h.1 k h1 h2), fun k h1 h2 => (g.2 k h1 h2).trans (h.2 k h1 h2)⟩
theorem KM.tr {a b c : AH} (h : KM a b) (g : KM b c) : KM a c := ⟨fun k h1 h2 => (g.1 k h1 h2).trans (h.1 k h1 h2), fun k h1 h2 => (g.2.1 k h1 h2).trans (h.2.1 k h1 h2), fun k h1 => (g.2.2 k h1).trans (h.2.2 k h1)⟩
theorem KX.sI {a b : AH} (h : KX a b) {k i j : Nat} {v : Int32} (hk : ¬ (8 ≤ k ∧ k ≤ 10)) (hi : ¬ (12 ≤ k ∧ k ≤ 17 ∧ i = 0)) : KX a (hsI b k i j v) := by
  refine h.tr ⟨fun q h1 h2 => hsI_k (by rintro e; omega), fun q h1 h2 => ?_⟩
  funext c
  rw [hsI_1, if_neg (by omega)]
theorem KX.fl {a b : AH} (h : KX a b) {k i lo n : Nat} {f : Nat → Int32} (hk : ¬ (8 ≤ k ∧ k ≤ 10)) (hi : ¬ (12 ≤ k ∧ k ≤ 17 ∧ i = 0)) : KX a (hfl b k i lo n f) := by
  refine h.tr ⟨fun q h1 h2 => hfl_k (by rintro e; omega), fun q h1 h2 => ?_⟩
  funext c
  rw [hfl_1, if_neg (by omega)]
theorem KX.cp {a b : AH} (h : KX a b) {k0 i0 k i sp lo n : Nat} (hk : ¬ (8 ≤ k ∧ k ≤ 10)) (hi : ¬ (12 ≤ k ∧ k ≤ 17 ∧ i = 0)) : KX a (hcp b k0 i0 k i sp lo n) := by
  refine h.tr ⟨fun q h1 h2 => hcp_k (by rintro e; omega), fun q h1 h2 => ?_⟩
  funext c
  rw [hcp_1, if_neg (by omega)]
theorem KM.sI {a b : AH} (h : KM a b) {k i j : Nat} {v : Int32} (hk : ¬ (41 ≤ k ∧ k ≤ 44)) (hk2 : ¬ (49 ≤ k ∧ k ≤ 54)) (hj : ¬ (k = 34 ∧ (j = 10 ∨ j = 11 ∨ j = 16 ∨ j = 17 ∨ j = 18 ∨ j = 27))) : KM a (hsI b k i j v) := by
  refine h.tr ⟨fun q h1 h2 => hsI_k (by rintro e; omega), fun q h1 h2 => hsI_k (by rintro e; omega), fun c hc => ?_⟩
  rw [hsI_1, if_neg (by omega)]
theorem KM.fl {a b : AH} (h : KM a b) {k i lo n : Nat} {f : Nat → Int32} (hk : ¬ (41 ≤ k ∧ k ≤ 44)) (hk2 : ¬ (49 ≤ k ∧ k ≤ 54)) (hj : ¬ k = 34) : KM a (hfl b k i lo n f) := by
  refine h.tr ⟨fun q h1 h2 => hfl_k (by rintro e; omega), fun q h1 h2 => hfl_k (by rintro e; omega), fun c hc => ?_⟩
  rw [hfl_1, if_neg (by omega)]
def Bk (hx hm : AH) : Prop := RB hx hm ∧ RR hx hm ∧ RT hx hm
def OB (hx hm : AH) (fx fm : Option (Int32 × AH)) : Prop := ∃ (r : Int32) (hx2 hm2 : AH), fx = some (r, hx2) ∧ fm = some (r, hm2) ∧ Bk hx2 hm2 ∧ KX hx hx2 ∧ KM hm hm2
theorem OB.same {hx hm : AH} (h : Bk hx hm) {fx fm : Option (Int32 × AH)} {r : Int32} (e1 : fx = some (r, hx)) (e2 : fm = some (r, hm)) : OB hx hm fx fm := ⟨r, hx, hm, e1, e2, h, KX.rfl, KM.rfl⟩
theorem Bk.find {hx hm : AH} (h : Bk hx hm) {f : Nat} (hf : f < 6) : Bk (hxF hx f) (hmF hm f) := by
  obtain ⟨a, b, c⟩ := h
  refine ⟨a.find hf, b.fr ?_ ?_ ?_ ?_, c.fr ?_ ?_ ?_ ?_⟩ <;> first | exact hxF_k (by decide) (by decide) | exact hmF_k (by decide) (by decide)
theorem OB.find {hx hm : AH} (h : Bk hx hm) {fx fm : Option (Int32 × AH)} {f : Nat} (hf : f < 6) (e1 : fx = some (-3, hxF hx f)) (e2 : fm = some (-3, hmF hm f)) : OB hx hm fx fm := by
  refine ⟨-3, _, _, e1, e2, h.find hf, ?_, ?_⟩
  · exact (KX.rfl.sI (by omega) (by omega)).sI (by omega) (by omega)
  · exact (KM.rfl.sI (by omega) (by omega) (by omega)).sI (by omega) (by omega) (by omega)
/-- told is set alike -/
theorem Bk.told {hx hm : AH} (h : Bk hx hm) (v : Int32) : Bk (hsI hx 0 0 14 v) (hsI hm 34 0 2 v) := by
  obtain ⟨⟨a, b, c, d, e⟩, f, g⟩ := h
  refine ⟨⟨?_, ?_, c, d, fun j hj => ?_⟩, f.fr ?_ ?_ ?_ ?_, g.fr ?_ ?_ ?_ ?_⟩
  · simp [hsI_1, a]
  · simp [hsI_1]
  · simp [hsI_1, e j hj]
  all_goals exact hsI_k (by decide)
theorem KX.told {hx : AH} (v : Int32) : KX hx (hsI hx 0 0 14 v) := KX.rfl.sI (by omega) (by omega)
theorem KM.told {hm : AH} (v : Int32) : KM hm (hsI hm 34 0 2 v) := KM.rfl.sI (by omega) (by omega) (by omega)
theorem OB.told {hx hm : AH} (h : Bk hx hm) {fx fm : Option (Int32 × AH)} {r : Int32} (v : Int32) (e1 : fx = some (r, hsI hx 0 0 14 v)) (e2 : fm = some (r, hsI hm 34 0 2 v)) : OB hx hm fx fm := ⟨r, _, _, e1, e2, h.told v, KX.told v, KM.told v⟩
theorem m_tells (x y : Int32) (h : AH) : f_X12_tells x y h = some (y, hsI h 34 0 2 x) := rfl
theorem hfl_s0 (h : AH) (k i n : Nat) (f : Nat → Int32) : hsI (hfl h k i 0 n f) k i n (f n) = hfl h k i 0 (n + 1) f := by
  have := hfl_s h k i 0 n f
  rwa [Nat.zero_add] at this
theorem x_fillC (r : Nat) (x : Int32) (h : AH) : f_J7_fill_53178_cells r x h = some ((), hfl h 3 r 0 40 (fun _ => x)) := by
  unfold f_J7_fill_53178_cells
  have := lp0 (fun F j => l_J7_fill_53178_cells_5 F r x (nI j) (nI 40) (hfl h 3 r 0 j (fun _ => x))) 40 (some ((), hfl h 3 r 0 40 (fun _ => x))) (by
    intro F j hj
    show b_J7_fill_53178_cells_5 (l_J7_fill_53178_cells_5 F) r x (nI j) (nI 40) _ = _
    unfold b_J7_fill_53178_cells_5
    rw [if_neg (nI_ge hj (by omega)), if_pos (inb_nI hj (by omega)), nI_cl (by omega), nI_1]
    exact congrArg _ (hfl_s0 h 3 r j (fun _ => x))) (by
    intro F
    show b_J7_fill_53178_cells_5 (l_J7_fill_53178_cells_5 F) r x (nI 40) (nI 40) _ = _
    unfold b_J7_fill_53178_cells_5
    rw [if_pos (Int32.le_refl _)]) (by omega)
  rw [hfl_0, nI_0] at this
  rw [this]
  rfl
theorem x_renew (r : Nat) (x : Int32) (h : AH) : f_X5_renew r x h = some ((), hfl (hsI h 2 r 1 x) 3 r 0 40 (fun _ => 0)) := by
  unfold f_X5_renew
  rw [x_fillC]
  rfl
theorem m_rowloop {r : Nat} (hr : r < 6) (x2 : Int32) (h : AH) : l_X12_row_21 FU (nI r) x2 0 h = some ((), hfl h 37 0 (40 * r) 40 (fun _ => 0)) := by
  have := lp0 (fun F j => l_X12_row_21 F (nI r) x2 (nI j) (hfl h 37 0 (40 * r) j (fun _ => 0))) 40 (some ((), hfl h 37 0 (40 * r) 40 (fun _ => 0))) (by
    intro F j hj
    show b_X12_row_21 (l_X12_row_21 F) (nI r) x2 (nI j) _ = _
    unfold b_X12_row_21
    rw [ix40, if_neg (show ¬ (40 : Int32) ≤ nI j from nI_ge (b := 40) hj (by omega)), if_pos (inb_nI (by omega) (by omega)), nI_cl (by omega), nI_1]
    exact congrArg _ (hfl_s h 37 0 (40 * r) j (fun _ => 0))) (by
    intro F
    show b_X12_row_21 (l_X12_row_21 F) (nI r) x2 (nI 40) _ = _
    unfold b_X12_row_21
    rw [if_pos (show (40 : Int32) ≤ nI 40 from Int32.le_refl _)]) (by omega)
  rw [hfl_0, nI_0] at this
  exact this
theorem RR.upd {hx hm hx2 hm2 : AH} (h : RR hx hm) {r : Nat} (hr : r < 6) (a : ∀ q, q ≠ r → hx2.1 2 q 1 = hx.1 2 q 1) (b : ∀ q, q ≠ r → hm2.1 36 0 q = hm.1 36 0 q) (c : ∀ q, q ≠ r → ∀ j, hx2.1 3 q j = hx.1 3 q j) (d : ∀ j, ¬ (40 * r ≤ j ∧ j < 40 * r + 40) → hm2.1 37 0 j = hm.1 37 0 j) (e : hx2.1 2 r 1 = hm2.1 36 0 r) (f : Sz 40 (hm2.1 36 0 r)) (g : ∀ j, j < 40 → hx2.1 3 r j = hm2.1 37 0 (40 * r + j)) : RR hx2 hm2 := by
  intro q hq
  by_cases hqr : q = r
  · subst hqr
    exact ⟨e, f, g⟩
  · rw [a q hqr, b q hqr]
    refine ⟨(h q hq).1, (h q hq).2.1, fun j hj => ?_⟩
    rw [c q hqr, d _ (by omega)]
    exact (h q hq).2.2 j hj
theorem RT.upd {hx hm hx2 hm2 : AH} (h : RT hx hm) {r : Nat} (hr : r < 4) (a : ∀ q, q ≠ r → hx2.1 5 q 1 = hx.1 5 q 1) (b : ∀ q, q ≠ r → hm2.1 39 0 q = hm.1 39 0 q) (c : ∀ q, q ≠ r → ∀ j, hx2.1 6 q j = hx.1 6 q j) (d : ∀ j, ¬ (80 * r ≤ j ∧ j < 80 * r + 80) → hm2.1 40 0 j = hm.1 40 0 j) (e : hx2.1 5 r 1 = hm2.1 39 0 r) (f : Sz 80 (hm2.1 39 0 r)) (g : ∀ j, j < 80 → hx2.1 6 r j = hm2.1 40 0 (80 * r + j)) : RT hx2 hm2 := by
  intro q hq
  by_cases hqr : q = r
  · subst hqr
    exact ⟨e, f, g⟩
  · rw [a q hqr, b q hqr]
    refine ⟨(h q hq).1, (h q hq).2.1, fun j hj => ?_⟩
    rw [c q hqr, d _ (by omega)]
    exact (h q hq).2.2 j hj
theorem RB.fr {hx hm hx2 hm2 : AH} (h : RB hx hm) (a : hx2.1 0 = hx.1 0) (b : hx2.1 33 = hx.1 33) (c : hx2.2 = hx.2) (d : ∀ j, j < 3 → hm2.1 34 0 j = hm.1 34 0 j) (e : hm2.1 35 = hm.1 35) (f : hm2.2 = hm.2) : RB hx2 hm2 := by
  unfold RB at *
  rw [a, b, c, e, f, d 0 (by omega), d 2 (by omega)]
  exact h
theorem lt_i0 (x : Int32) : (0 ≤ x) ↔ 0 ≤ x.toInt := by rw [i_le]; rfl
theorem ni_of {x : Int32} {N : Nat} (h0 : 0 ≤ x.toInt) (h1 : x.toInt ≤ N) : ∃ n : Nat, n ≤ N ∧ x = nI n := by
  have hr := i_rng x
  refine ⟨x.toInt.toNat, by omega, Int32.toInt_inj.mp ?_⟩
  rw [nI_toInt (by omega)]
  omega
theorem i10 : ¬ (1 : Int32) = 0 := by decide
theorem x_ref1 (h : AH) : f_X11_refuse 1 h = some (-3, hxF h 1) := x_refuse (f := 1) (by omega) (by omega) h
theorem x_ref2 (h : AH) : f_X11_refuse 2 h = some (-3, hxF h 2) := x_refuse (f := 2) (by omega) (by omega) h
theorem x_ref3 (h : AH) : f_X11_refuse 3 h = some (-3, hxF h 3) := x_refuse (f := 3) (by omega) (by omega) h
theorem x_ref4 (h : AH) : f_X11_refuse 4 h = some (-3, hxF h 4) := x_refuse (f := 4) (by omega) (by omega) h
theorem x_ref5 (h : AH) : f_X11_refuse 5 h = some (-3, hxF h 5) := x_refuse (f := 5) (by omega) (by omega) h
theorem m_me1 (h : AH) : f_X12_meets 1 h = some (-3, hmF h 1) := m_meets (f := 1) (by omega) (by omega) h
theorem m_me2 (h : AH) : f_X12_meets 2 h = some (-3, hmF h 2) := m_meets (f := 2) (by omega) (by omega) h
theorem m_me3 (h : AH) : f_X12_meets 3 h = some (-3, hmF h 3) := m_meets (f := 3) (by omega) (by omega) h
theorem m_me4 (h : AH) : f_X12_meets 4 h = some (-3, hmF h 4) := m_meets (f := 4) (by omega) (by omega) h
theorem m_me5 (h : AH) : f_X12_meets 5 h = some (-3, hmF h 5) := m_meets (f := 5) (by omega) (by omega) h
theorem o_row {hx hm : AH} (h : Bk hx hm) (a0 a1 : Int32) : OB hx hm (f_X11_row a0 a1 hx) (f_X12_row a0 a1 hm) := by
  unfold f_X11_row f_X12_row
  simp only [x_isRow, m_isRow, bd_some, x_ref5, m_me5]
  by_cases hb : inb a0 6 = true
  rotate_left
  · simp only [if_neg hb, if_true]
    exact OB.same h rfl rfl
  obtain ⟨r, hr, rfl⟩ := inb_ex hb
  simp only [if_pos hb, if_neg i10]
  by_cases h40 : a1 ≤ 40
  rotate_left
  · simp only [if_neg h40]
    exact OB.same h rfl rfl
  simp only [if_pos h40]
  by_cases h0 : 0 ≤ a1
  rotate_left
  · simp only [if_neg h0]
    exact OB.find h (f := 5) (by omega) rfl rfl
  simp only [if_pos h0, nI_cl (show r < 100000 by omega), x_renew, m_rowloop hr, bd_some, c_X12_row_35]
  have h40' : a1.toInt ≤ 40 := (i_le a1 40).mp h40
  obtain ⟨n, hn, rfl⟩ := ni_of (N := 40) ((lt_i0 a1).mp h0) h40'
  refine ⟨nI n, _, _, rfl, rfl, ⟨h.1.fr ?_ ?_ ?_ ?_ ?_ ?_, h.2.1.upd hr ?_ ?_ ?_ ?_ ?_ ?_ ?_, h.2.2.fr ?_ ?_ ?_ ?_⟩, (KX.rfl.sI ?_ ?_).fl ?_ ?_, (KM.rfl.sI ?_ ?_ ?_).fl ?_ ?_ ?_⟩
  all_goals try omega
  · rw [hfl_k (by decide), hsI_k (by decide)]
  · rw [hfl_k (by decide), hsI_k (by decide)]
  · rfl
  · intro j hj
    rw [hfl_k (by decide), hsI_k (by decide)]
  · rw [hfl_k (by decide), hsI_k (by decide)]
  · rfl
  · intro q hq
    simp [hfl_1, hsI_1, hq]
  · intro q hq
    simp [hfl_1, hsI_1, hq]
  · intro q hq j
    simp [hfl_1, hsI_1, hq]
  · intro j hj
    rw [hfl_1, if_neg (by omega), hsI_k (by decide)]
  · simp [hfl_1, hsI_1]
  · right
    refine ⟨n, hn, ?_⟩
    simp [hfl_1, hsI_1]
  · intro j hj
    rw [hfl_1, if_pos (by omega), hfl_1, if_pos (by omega)]
  · rw [hfl_k (by decide), hsI_k (by decide)]
  · rw [hfl_k (by decide), hsI_k (by decide)]
  · rw [hfl_k (by decide), hsI_k (by decide)]
  · rw [hfl_k (by decide), hsI_k (by decide)]
/-! sizes -/
theorem Sz.neg {N : Nat} {z : Int32} (h : Sz N z) (hN : N < 100000) : (z = -1 ∧ ¬ 0 ≤ z ∧ z < 0) ∨ ∃ n : Nat, n ≤ N ∧ z = nI n ∧ ¬ z = -1 ∧ 0 ≤ z ∧ ¬ z < 0 := by
  rcases h with rfl | ⟨n, hn, rfl⟩
  · left; exact ⟨rfl, by decide, by decide⟩
  · right
    refine ⟨n, hn, rfl, ?_, ?_, ?_⟩
    · intro e
      have := congrArg Int32.toInt e
      rw [nI_toInt (by omega)] at this
      have h2 : (-1 : Int32).toInt = -1 := rfl
      omega
    · rw [lt_i0, nI_toInt (by omega)]; omega
    · rw [i_lt, nI_toInt (by omega)]; show ¬ ((n : Int) < 0); omega
theorem x_isMiss (r : Nat) (h : AH) : f_X5_isMissing r h = some (if h.1 2 r 1 = -1 then 1 else 0, h) := by
  unfold f_X5_isMissing
  split <;> rfl
theorem x_spans1 {r n : Nat} (hn : n ≤ 40) {h : AH} (e : h.1 2 r 1 = nI n) (x : Int32) : f_X5_spans r x 1 h = some (if inb x n = true then 1 else 0, h) := by
  unfold f_X5_spans
  have e1 : (1 : Int32) = nI 1 := rfl
  rw [e]
  have h0 : (x < 0) ↔ x.toInt < 0 := i_lt x 0
  have h1 : (nI n < 1) ↔ n < 1 := by rw [e1, nI_ltI (by omega) (by omega)]
  by_cases hb : inb x n = true
  · obtain ⟨j, hj, rfl⟩ := inb_ex hb
    rw [if_pos hb, if_neg, if_neg, if_neg]
    · rfl
    · have : nI n = nI (n - 1) + 1 := by rw [nI_1]; congr 1; omega
      rw [this, Int32.add_sub_cancel, nI_ltI (by omega) (by omega)]; omega
    · rw [h1]; omega
    · rw [h0, nI_toInt (by omega)]; omega
  · rw [if_neg hb]
    have hh : ¬ (0 ≤ x.toInt ∧ x.toInt < (n : Int)) := fun z => hb (inb_iff.mpr z)
    by_cases a : x < 0
    · rw [if_pos a]; rfl
    · rw [if_neg a]
      by_cases b : nI n < 1
      · rw [if_pos b]; rfl
      · rw [if_neg b, if_pos]
        · rfl
        · rw [h0] at a
          rw [h1] at b
          have : nI n = nI (n - 1) + 1 := by rw [nI_1]; congr 1; omega
          rw [this, Int32.add_sub_cancel, i_lt, nI_toInt (by omega)]
          omega
theorem m_inn {n : Nat} (hn : n ≤ 100) (x : Int32) (h : AH) : f_X12_in x 0 (nI n - 1) h = some (if inb x n = true then 1 else 0, h) := by
  rw [m_in]
  congr 2
  have e0 : (0 : Int32).toInt = 0 := rfl
  have e2 : (nI n - 1).toInt = (n : Int) - 1 := by
    by_cases hz : n = 0
    · subst hz; decide
    · have : nI n = nI (n - 1) + 1 := by rw [nI_1]; congr 1; omega
      rw [this, Int32.add_sub_cancel, nI_toInt (by omega)]; omega
  rw [e0, e2]
  by_cases hb : inb x n = true
  · have := inb_iff.mp hb
    rw [if_pos hb, if_pos (by omega)]
  · have : ¬ (0 ≤ x.toInt ∧ x.toInt < (n : Int)) := fun z => hb (inb_iff.mpr z)
    rw [if_neg hb, if_neg (by omega)]
theorem m_rowAt {r j : Nat} (hr : r < 6) (hj : j < 40) (h : AH) : f_X12_rowAt (nI r) (nI j) h = some (h.1 37 0 (40 * r + j), h) := by
  unfold f_X12_rowAt
  rw [ix40, if_pos (inb_nI (by omega) (by omega)), nI_cl (by omega)]
theorem inb_up {x : Int32} {n m : Nat} (h : inb x n = true) (hm : n ≤ m) : inb x m = true := by
  have := inb_iff.mp h
  exact inb_iff.mpr (by omega)
theorem Bk.row {hx hm : AH} (h : Bk hx hm) {r : Nat} (hr : r < 6) : (hx.1 2 r 1 = -1 ∧ hm.1 36 0 r = -1) ∨ ∃ n : Nat, n ≤ 40 ∧ hx.1 2 r 1 = nI n ∧ hm.1 36 0 r = nI n ∧ ¬ nI n = -1 ∧ 0 ≤ nI n ∧ ¬ nI n < 0 := by
  obtain ⟨a, b, c⟩ := h.2.1 r hr
  rw [a]
  rcases b.neg (by omega) with ⟨e, -, -⟩ | ⟨n, hn, e, f, g, k⟩
  · exact Or.inl ⟨e, e⟩
  · rw [e] at f g k
    exact Or.inr ⟨n, hn, e, e, f, g, k⟩
theorem neg1 : ¬ (0 : Int32) ≤ -1 := by decide
theorem o_at {hx hm : AH} (h : Bk hx hm) (a0 a1 : Int32) : OB hx hm (f_X11_at a0 a1 hx) (f_X12_at a0 a1 hm) := by
  unfold f_X11_at f_X12_at
  simp only [x_isRow, m_isRow, bd_some, x_ref1, m_me1, x_ref2, m_me2, m_tells]
  by_cases hb : inb a0 6 = true
  rotate_left
  · simp only [if_neg hb, if_true]
    exact OB.same h rfl rfl
  obtain ⟨r, hr, rfl⟩ := inb_ex hb
  simp only [if_pos hb, if_neg i10, nI_cl (show r < 100000 by omega), x_isMiss, bd_some]
  rcases h.row hr with ⟨e1, e2⟩ | ⟨n, hn, e1, e2, f, g, k⟩
  · simp only [e1, e2, if_true, if_neg i10, if_neg neg1]
    exact OB.find h (f := 1) (by omega) rfl rfl
  simp only [e1, e2, if_neg f, if_pos g, if_true, x_spans1 hn e1, m_inn (show n ≤ 100 by omega), bd_some]
  by_cases hc : inb a1 n = true
  rotate_left
  · simp only [if_neg hc, if_true]
    exact OB.find h (f := 2) (by omega) rfl rfl
  obtain ⟨j, hj, rfl⟩ := inb_ex hc
  simp only [if_pos hc, if_neg i10, if_pos (inb_up hc hn), m_rowAt hr (show j < 40 by omega), bd_some, nI_cl (show j < 100000 by omega), (h.2.1 r hr).2.2 j (by omega)]
  exact OB.told h _ rfl rfl
theorem o_lay {hx hm : AH} (h : Bk hx hm) (a0 a1 a2 : Int32) : OB hx hm (f_X11_lay a0 a1 a2 hx) (f_X12_lay a0 a1 a2 hm) := by
  unfold f_X11_lay f_X12_lay
  simp only [x_isRow, m_isRow, bd_some, x_ref1, m_me1, x_ref2, m_me2, m_tells]
  by_cases hb : inb a0 6 = true
  rotate_left
  · simp only [if_neg hb, if_true]
    exact OB.same h rfl rfl
  obtain ⟨r, hr, rfl⟩ := inb_ex hb
  simp only [if_pos hb, if_neg i10, nI_cl (show r < 100000 by omega), x_isMiss, bd_some]
  rcases h.row hr with ⟨e1, e2⟩ | ⟨n, hn, e1, e2, f, g, k⟩
  · simp only [e1, e2, if_true, if_neg i10, if_neg neg1]
    exact OB.find h (f := 1) (by omega) rfl rfl
  simp only [e1, e2, if_neg f, if_pos g, if_true, x_spans1 hn e1, m_inn (show n ≤ 100 by omega), bd_some]
  by_cases hc : inb a1 n = true
  rotate_left
  · simp only [if_neg hc, if_true]
    exact OB.find h (f := 2) (by omega) rfl rfl
  obtain ⟨j, hj, rfl⟩ := inb_ex hc
  simp only [if_pos hc, if_neg i10, if_pos (inb_up hc hn), m_rowAt hr (show j < 40 by omega), bd_some, nI_cl (show j < 100000 by omega), (h.2.1 r hr).2.2 j (by omega), ix40, if_pos (inb_nI (show 40 * r + j < 240 by omega) (by omega)), nI_cl (show 40 * r + j < 100000 by omega)]
  have h2 := h.told (hm.1 37 0 (40 * r + j))
  have eM : hsI (hsI hm 37 0 (40 * r + j) a2) 34 0 2 (hm.1 37 0 (40 * r + j)) = hsI (hsI hm 34 0 2 (hm.1 37 0 (40 * r + j))) 37 0 (40 * r + j) a2 := by
    unfold hsI
    congr 1
    funext a b c
    by_cases ha : a = 34
    · subst ha; simp
    · simp [ha]
  rw [eM]
  refine ⟨1, _, _, rfl, rfl, ⟨h2.1.fr ?_ ?_ ?_ ?_ ?_ ?_, h2.2.1.upd hr ?_ ?_ ?_ ?_ ?_ ?_ ?_, h2.2.2.fr ?_ ?_ ?_ ?_⟩, (KX.told _).sI ?_ ?_, (KM.told _).sI ?_ ?_ ?_⟩
  all_goals try omega
  · exact hsI_k (by decide)
  · exact hsI_k (by decide)
  · rfl
  · intro j hj
    rw [hsI_k (by decide)]
  · exact hsI_k (by decide)
  · rfl
  · intro q hq
    rw [hsI_k (by decide)]
  · intro q hq
    rw [hsI_k (by decide)]
  · intro q hq i
    rw [hsI_1 _ 3, if_neg (by omega)]
  · intro i hi
    rw [hsI_1 _ 37, if_neg (by omega)]
  · rw [hsI_k (by decide), hsI_k (k := 37) (by decide)]
    exact (h2.2.1 r hr).1
  · rw [hsI_k (k := 37) (by decide)]
    exact (h2.2.1 r hr).2.1
  · intro i hi
    rw [hsI_1 _ 3, hsI_1 _ 37]
    by_cases hij : i = j
    · subst hij
      rw [if_pos ⟨rfl, rfl, rfl⟩, if_pos ⟨rfl, rfl, rfl⟩]
    · rw [if_neg (by omega), if_neg (by omega)]
      exact (h2.2.1 r hr).2.2 i hi
  all_goals exact hsI_k (by decide)
theorem o_tear {hx hm : AH} (h : Bk hx hm) (a0 : Int32) : OB hx hm (f_X11_tear a0 hx) (f_X12_tear a0 hm) := by
  unfold f_X11_tear f_X12_tear
  simp only [x_isRow, m_isRow, bd_some, x_ref1, m_me1, x_ref2, m_me2, m_tells]
  by_cases hb : inb a0 6 = true
  rotate_left
  · simp only [if_neg hb, if_true]
    exact OB.same h rfl rfl
  obtain ⟨r, hr, rfl⟩ := inb_ex hb
  simp only [if_pos hb, if_neg i10, nI_cl (show r < 100000 by omega), x_isMiss, bd_some]
  rcases h.row hr with ⟨e1, e2⟩ | ⟨n, hn, e1, e2, f, g, k⟩
  · simp only [e1, e2, if_true, if_neg i10, if_neg neg1]
    exact OB.find h (f := 1) (by omega) rfl rfl
  simp only [e1, e2, if_neg f, if_pos g, if_true]
  refine ⟨1, _, _, rfl, rfl, ⟨h.1.fr ?_ ?_ ?_ ?_ ?_ ?_, h.2.1.upd hr ?_ ?_ ?_ ?_ ?_ ?_ ?_, h.2.2.fr ?_ ?_ ?_ ?_⟩, KX.rfl.sI ?_ ?_, KM.rfl.sI ?_ ?_ ?_⟩
  all_goals try omega
  · exact hsI_k (by decide)
  · exact hsI_k (by decide)
  · rfl
  · intro j hj
    rw [hsI_k (by decide)]
  · exact hsI_k (by decide)
  · rfl
  · intro q hq
    rw [hsI_1, if_neg (by omega)]
  · intro q hq
    rw [hsI_1, if_neg (by omega)]
  · intro q hq i
    rw [hsI_k (by decide)]
  · intro i hi
    rw [hsI_k (by decide)]
  · rw [hsI_1, if_pos ⟨rfl, rfl, rfl⟩, hsI_1, if_pos ⟨rfl, rfl, rfl⟩]
  · rw [hsI_1, if_pos ⟨rfl, rfl, rfl⟩]
    exact Or.inl rfl
  · intro i hi
    rw [hsI_k (by decide), hsI_k (by decide)]
    exact (h.2.1 r hr).2.2 i hi
  all_goals exact hsI_k (by decide)
