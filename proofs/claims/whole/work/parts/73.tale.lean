/-! ===== evenings told ===== -/
theorem d2 : ∀ a, a < 64 → nI a / 2 = nI (a / 2) ∧ nI a - nI a / 2 * 2 = nI (a % 2) := by decide +kernel
def tok (p : PD) (g : Nat → Int32) (i : Nat) : Bool := if i % 2 = 1 then inb (g i) p.m else inb (g i) p.n
theorem x_taleL {h : AH} {p : PD} {s : SD} (c : XC h p s) {r N : Nat} (hr : r < 6) (hN : N ≤ 31) : l_X11_refusalOfTale_40 FU (nI r) (nI N) 0 h = if anyN (fun i => !tok p (h.1 3 r) i) N = true then some (-3, hxF h 3) else some (0, h) := by
  have := lpi (fun F (i : Int32) => l_X11_refusalOfTale_40 F (nI r) (nI N) i h) N
    (fun j i => i = nI j ∧ ∀ k, k < j → tok p (h.1 3 r) k = true)
    (fun o => o = if anyN (fun i => !tok p (h.1 3 r) i) N = true then some (-3, hxF h 3) else some (0, h)) (by
    rintro F j i hj ⟨rfl, hq⟩
    obtain ⟨e1, e2⟩ := d2 j (by omega)
    show b_X11_refusalOfTale_40 (l_X11_refusalOfTale_40 F) (nI r) (nI N) (nI j) h = _ ∨ ∃ t2, _ ∧ b_X11_refusalOfTale_40 (l_X11_refusalOfTale_40 F) (nI r) (nI N) (nI j) h = l_X11_refusalOfTale_40 F (nI r) (nI N) t2 h
    unfold b_X11_refusalOfTale_40
    rw [if_neg (nI_ge hj (by omega)), if_pos (inb_nI hr (by omega)), if_pos (inb_nI (by omega) (by omega)), nI_cl (show r < 100000 by omega), nI_cl (show j < 100000 by omega), e2, x_isReason c, bd_some, x_isClaim c, bd_some, x_ref3, bd_some, if10, if10, nI_1]
    have e3 : (nI (j % 2) = 1) ↔ j % 2 = 1 := nI_eq (b := 1) (by omega) (by omega)
    have body : (if nI (j % 2) = (1 : Int32) then (if inb (h.1 3 r j) p.m = true then l_X11_refusalOfTale_40 F (nI r) (nI N) (nI (j + 1)) h else some (-3, hxF h 3)) else (if inb (h.1 3 r j) p.n = true then l_X11_refusalOfTale_40 F (nI r) (nI N) (nI (j + 1)) h else some (-3, hxF h 3))) = if tok p (h.1 3 r) j = true then l_X11_refusalOfTale_40 F (nI r) (nI N) (nI (j + 1)) h else some (-3, hxF h 3) := by
      unfold tok
      by_cases o : j % 2 = 1
      · rw [if_pos (e3.mpr o), if_pos o]
      · rw [if_neg (fun z => o (e3.mp z)), if_neg o]
    rw [body]
    by_cases t : tok p (h.1 3 r) j = true
    · right
      rw [if_pos t]
      refine ⟨_, ⟨rfl, fun k hk => ?_⟩, rfl⟩
      by_cases e : k = j
      · rw [e]; exact t
      · exact hq k (by omega)
    · left
      rw [if_neg t, if_pos]
      rw [anyN_iff]
      exact ⟨j, hj, by simpa using t⟩) (by
    rintro F i ⟨rfl, hq⟩
    show b_X11_refusalOfTale_40 (l_X11_refusalOfTale_40 F) (nI r) (nI N) (nI N) h = _
    unfold b_X11_refusalOfTale_40
    rw [if_pos (Int32.le_refl _), if_neg]
    rw [anyN_f.mpr (fun k hk => by rw [hq k hk]; rfl)]
    decide) (by omega) 0 ⟨rfl, fun k hk => by omega⟩
  exact this
theorem m_taleL {h : AH} {p : PD} {s : SD} (c : MC h p s) {r N : Nat} (hr : r < 6) (hN : N ≤ 31) (eN : h.1 36 0 r = nI N) (g : Nat → Int32) (hg : ∀ i, i < N → h.1 37 0 (40 * r + i) = g i) : l_X12_needTold_40 FU (nI r) 1 0 h = some (if anyN (fun i => !tok p g i) N = true then 0 else 1, h) := by
  have := lp0 (fun F j => l_X12_needTold_40 F (nI r) (if anyN (fun i => !tok p g i) j = true then 0 else 1) (nI j) h) N (some (if anyN (fun i => !tok p g i) N = true then 0 else 1, h)) (by
    intro F j hj
    obtain ⟨e1, e2⟩ := d2 j (by omega)
    show b_X12_needTold_40 (l_X12_needTold_40 F) (nI r) _ (nI j) h = l_X12_needTold_40 F (nI r) (if (anyN (fun i => !tok p g i) j || !tok p g j) = true then 0 else 1) (nI (j + 1)) h
    unfold b_X12_needTold_40
    rw [if_pos (inb_nI hr (by omega)), nI_cl (show r < 100000 by omega), eN, if_neg (nI_ge hj (by omega)), e2, m_rowAt hr (by omega), bd_some, bd_some, hg j hj, m_isClaim c, bd_some, m_isReason c, bd_some, if10, if10, nI_1]
    have e3 : (nI (j % 2) = 0) ↔ j % 2 = 0 := nI_eq0 (by omega)
    cases anyN (fun i => !tok p g i) j
    · rw [if_neg (by decide), Bool.false_or]
      unfold tok
      by_cases o : j % 2 = 1
      · rw [if_neg (fun z => by have := e3.mp z; omega), if_pos o]
        cases inb (g j) p.m
        · rfl
        · rfl
      · rw [if_pos (e3.mpr (by omega)), if_neg o]
        cases inb (g j) p.n
        · rfl
        · rfl
    · rw [if_pos rfl, if_pos rfl, Bool.true_or, if_pos rfl]) (by
    intro F
    show b_X12_needTold_40 (l_X12_needTold_40 F) (nI r) _ (nI N) h = _
    unfold b_X12_needTold_40
    rw [if_pos (inb_nI hr (by omega)), nI_cl (show r < 100000 by omega), eN, if_pos (Int32.le_refl _)]) (by omega)
  exact this
/-- a row that tells an evening of q answers: v -/
def TL (hx hm : AH) (p : PD) (r q : Nat) (v : Nat → Nat) : Prop := r < 6 ∧ q ≤ 15 ∧ hx.1 2 r 1 = nI (2 * q + 1) ∧ hm.1 36 0 r = nI (2 * q + 1) ∧ ∀ i, i < 2 * q + 1 → hx.1 3 r i = nI (v i) ∧ hm.1 37 0 (40 * r + i) = nI (v i) ∧ (i % 2 = 0 → v i < p.n) ∧ (i % 2 = 1 → v i < p.m)
theorem tale {hx hm : AH} {p : PD} {s : SD} (b : Bk hx hm) (d : RD hx hm p s) (a : Int32) : (∃ e hx2 hm2, f_X11_refusalOfTale a hx = some (e, hx2) ∧ f_X12_needTold a hm = some (e, hm2) ∧ ¬ e = 0 ∧ ¬ 0 ≤ e ∧ Rel hx2 hm2) ∨ (∃ r q v, a = nI r ∧ TL hx hm p r q v ∧ f_X11_refusalOfTale a hx = some (0, hx) ∧ f_X12_needTold a hm = some (0, hm)) := by
  have h : Rel hx hm := ⟨b, p, s, d⟩
  have hn := d.1.n10
  have n3 : ¬ (-3 : Int32) = 0 := by decide
  have n3' : ¬ (0 : Int32) ≤ -3 := by decide
  unfold f_X11_refusalOfTale f_X12_needTold
  rw [x_isRow, m_isRow, bd_some, bd_some, if10, if10]
  by_cases hb : inb a 6 = true
  rotate_left
  · left
    rw [if_neg hb, if_neg hb]
    exact ⟨-1, hx, hm, rfl, rfl, by decide, by decide, h⟩
  obtain ⟨r, hr, rfl⟩ := inb_ex hb
  simp only [if_pos hb, d.x.n, d.m.n]
  by_cases e0 : p.n = 0
  · left
    rw [if_pos ((nI_eq0 (by omega)).mpr e0), if_pos ((nI_eq0 (by omega)).mpr e0)]
    exact ⟨-4, hx, hm, rfl, rfl, by decide, by decide, h⟩
  rw [if_neg (fun z => e0 ((nI_eq0 (by omega)).mp z)), if_neg (fun z => e0 ((nI_eq0 (by omega)).mp z))]
  simp only [if_pos hb, nI_cl (show r < 100000 by omega), x_isMiss, bd_some, if10, x_ref1, x_ref5, m_me1, m_me5]
  rcases b.row hr with ⟨e1, e2⟩ | ⟨N, hN, e1, e2, f, g, k⟩
  · left
    simp only [e1, e2, if_true, if_neg neg1]
    exact ⟨-3, _, _, rfl, rfl, n3, n3', (OB.find b (f := 1) (by omega) rfl rfl).rel h |> fun ⟨_, _, _, z1, z2, z3⟩ => by
      cases z1; cases z2; exact z3⟩
  obtain ⟨m1, m2⟩ := d2 N (by omega)
  simp only [e1, e2, if_neg f, if_pos g, m2]
  have r5 : Rel (hxF hx 5) (hmF hm 5) := (OB.find b (f := 5) (by omega) rfl rfl).rel h |> fun ⟨_, _, _, z1, z2, z3⟩ => by
    cases z1; cases z2; exact z3
  have r3 : Rel (hxF hx 3) (hmF hm 3) := (OB.find b (f := 3) (by omega) rfl rfl).rel h |> fun ⟨_, _, _, z1, z2, z3⟩ => by
    cases z1; cases z2; exact z3
  by_cases o : N % 2 = 0
  · left
    simp only [if_pos ((nI_eq0 (show N % 2 < 100000 by omega)).mpr o)]
    exact ⟨-3, _, _, rfl, rfl, n3, n3', r5⟩
  have o' : ¬ nI (N % 2) = 0 := fun z => o ((nI_eq0 (by omega)).mp z)
  simp only [if_neg o']
  by_cases l : N ≤ 31
  rotate_left
  · left
    have l' : ¬ nI N ≤ (31 : Int32) := fun z => l ((nI_leI (b := 31) (by omega) (by omega)).mp z)
    simp only [if_neg l']
    exact ⟨-3, _, _, rfl, rfl, n3, n3', r5⟩
  have l' : nI N ≤ (31 : Int32) := (nI_leI (b := 31) (by omega) (by omega)).mpr l
  have hrow := (b.2.1 r hr).2.2
  simp only [if_pos l', x_taleL d.x hr l, m_taleL d.m hr l e2 (hx.1 3 r) (fun i hi => (hrow i (by omega)).symm), bd_some, c_X12_needTold_73, m_me3]
  by_cases t : anyN (fun i => !tok p (hx.1 3 r) i) N = true
  · left
    simp only [if_pos t, if_true]
    exact ⟨-3, _, _, rfl, rfl, n3, n3', r3⟩
  · right
    simp only [if_neg t, if_neg i10]
    have t' : anyN (fun i => !tok p (hx.1 3 r) i) N = false := by simpa using t
    rw [anyN_f] at t'
    refine ⟨r, N / 2, fun i => (hx.1 3 r i).toNatClampNeg, rfl, ⟨hr, by omega, ?_, ?_, fun i hi => ?_⟩, trivial, trivial⟩
    · rw [e1]; congr 1; omega
    · rw [e2]; congr 1; omega
    · have hi' : i < N := by omega
      have ht : tok p (hx.1 3 r) i = true := by simpa using t' i hi'
      have hM := d.1.m14
      rw [← hrow i (by omega)]
      unfold tok at ht
      by_cases od : i % 2 = 1
      · rw [if_pos od] at ht
        obtain ⟨j, j1, j2⟩ := inb_ex ht
        simp only [j2, nI_cl (show j < 100000 by omega)]
        exact ⟨trivial, trivial, fun z => by omega, fun _ => j1⟩
      · rw [if_neg od] at ht
        obtain ⟨j, j1, j2⟩ := inb_ex ht
        simp only [j2, nI_cl (show j < 100000 by omega)]
        exact ⟨trivial, trivial, fun _ => j1, fun z => by omega⟩
