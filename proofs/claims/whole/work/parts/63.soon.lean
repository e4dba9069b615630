/-! ===== soonest, by the reference ===== -/
noncomputable def Fr (p : PD) (s : SD) : Nat → Nat → Nat
  | 0 => Jc p s 0 0
  | r + 1 => fun x => if Fr p s r x < 1000000 then Fr p s r x else if anyN (fun k => decide (p.co k = x) && (us p s k && decide (wst p (Fr p s r) k p.n < 1000000))) p.m = true then r + 1 else 1000000
noncomputable def FrP (p : PD) (s : SD) (r x j : Nat) : Nat := if Fr p s r x < 1000000 then Fr p s r x else if anyN (fun k => decide (p.co k = x) && (us p s k && decide (wst p (Fr p s r) k p.n < 1000000))) j = true then r + 1 else 1000000
theorem Fr_s (p : PD) (s : SD) (r x : Nat) : Fr p s (r + 1) x = FrP p s r x p.m := rfl
theorem Fr_fr (p : PD) (s : SD) (x : Nat) : ∀ r, FR r (Fr p s r x)
  | 0 => by
    rcases Jc00 p s 0 x with e | e
    · exact Or.inl (by show Jc p s 0 0 x ≤ 0; omega)
    · exact Or.inr e
  | r + 1 => by
    have ih := Fr_fr p s x r
    rw [Fr_s]
    unfold FrP FR
    unfold FR at ih
    split
    · omega
    · split <;> omega
theorem Fr_st {p : PD} {s : SD} {r x : Nat} (h : Fr p s r x < 1000000) : ∀ d, Fr p s (r + d) x = Fr p s r x
  | 0 => rfl
  | d + 1 => by
    have ih := Fr_st h d
    show Fr p s (r + d + 1) x = _
    rw [Fr_s]
    unfold FrP
    rw [ih, if_pos h]
theorem Fr_ge {p : PD} {s : SD} {r q x : Nat} (h : Fr p s r x < 1000000) (hq : r ≤ q) : Fr p s q x = Fr p s r x := by
  obtain ⟨d, rfl⟩ := Nat.exists_eq_add_of_le hq
  exact Fr_st h d
theorem Fr_up {p : PD} {s : SD} : ∀ r, r < 999999 → ∀ x, x < p.n → Jc p s 0 r x ≤ Fr p s r x
  | 0, _, _, _ => Nat.le_refl _
  | r + 1, hr, x, hx => by
    have ih := Fr_up (p := p) (s := s) r (by omega)
    rw [Fr_s]
    unfold FrP
    split
    · exact Nat.le_trans (Jc_dn p s 0 r x) (ih x hx)
    · split
      · rename_i h
        obtain ⟨k, hk, h1⟩ := (anyN_iff _ _).mp h
        rw [Bool.and_eq_true, Bool.and_eq_true, decide_eq_true_eq, decide_eq_true_eq] at h1
        obtain ⟨a, b, c⟩ := h1
        have h2 : Jc p s 0 (r + 1) x ≤ fk p s 0 k (Jc p s 0 r) := red_lef a b p.m hk
        have h3 : fk p s 0 k (Jc p s 0 r) ≤ fk p s 0 k (Fr p s r) := fk_mono ih
        have h4 : fk p s 0 k (Fr p s r) = 1 + wst p (Fr p s r) k p.n := by
          unfold fk
          rw [if_pos c, if_pos rfl]
        have h5 : wst p (Fr p s r) k p.n ≤ r := wst_le p.n (fun y hy hb => by
          have h6 := wst_ge (p := p) (c := Fr p s r) hb p.n hy
          have h7 := Fr_fr p s y r
          unfold FR at h7
          omega)
        omega
      · exact Jc_far p s 0 x (r + 1)
theorem Fr_dn {p : PD} (v : PV p) {s : SD} : ∀ r x, x < p.n → Jc p s 0 r x < 1000000 → Fr p s (Jc p s 0 r x) x < 1000000
  | 0, x, _, h => by
    rcases Jc00 p s 0 x with e | e
    · rw [e]; show Jc p s 0 0 x < _; omega
    · omega
  | r + 1, x, hx, h => by
    have ih := Fr_dn v (s := s) r
    rw [Jc_s] at h ⊢
    rcases red_cs p s 0 (Jc p s 0 r) x p.m with e | ⟨k, hk, h1, h2, e⟩
    · rw [e] at h ⊢; exact ih x hx h
    · rw [e] at h ⊢
      have hw : wst p (Jc p s 0 r) k p.n < 1000000 := by
        apply Classical.byContradiction
        intro z
        unfold fk at h
        rw [if_neg z] at h
        omega
      have hf : fk p s 0 k (Jc p s 0 r) = wst p (Jc p s 0 r) k p.n + 1 := by
        unfold fk
        rw [if_pos hw, if_pos rfl]; omega
      rw [hf] at h ⊢
      rw [Fr_s]
      unfold FrP
      split
      · assumption
      · rw [if_pos]
        · exact h
        · rw [anyN_iff]
          refine ⟨k, hk, ?_⟩
          rw [Bool.and_eq_true, Bool.and_eq_true, decide_eq_true_eq, decide_eq_true_eq]
          refine ⟨h1, h2, wst_lt (by omega) (fun y hy hb => ?_)⟩
          have h6 := wst_ge (p := p) (c := Jc p s 0 r) hb p.n hy
          have h7 := ih y hy (by omega)
          rw [Fr_ge h7 h6]; exact h7
theorem Fr_JE {p : PD} (v : PV p) (s : SD) {x : Nat} (hx : x < p.n) : Fr p s p.n x = JE p s 0 x := by
  have hn := v.n10
  have h1 := Fr_up (p := p) (s := s) p.n (by omega) x hx
  have h2 := Fr_fr p s x p.n
  have h3 := JE_far p s 0 x
  have e : JE p s 0 x = Jc p s 0 p.n x := rfl
  by_cases f : JE p s 0 x < 1000000
  · have h4 := Jc_bd p s 0 x p.n f
    rw [if_pos rfl] at h4
    have h5 := Fr_dn v (s := s) p.n x hx f
    have h6 := Fr_fr p s x (Jc p s 0 p.n x)
    have h7 := Fr_ge h5 h4
    unfold FR at h6
    omega
  · unfold FR at h2
    omega
theorem m_greatest {h : AH} {p : PD} {s : SD} (c : MC h p s) {d : Nat → Nat} (hd : MV h p 55 999 e1 d) {k : Nat} (hk : k < p.m) : f_X12_greatestPart (nI k) h = some (e1 (wst p d k p.n), h) := by
  have hn := c.1.n10
  have hm := c.1.m14
  unfold f_X12_greatestPart
  have := lp0 (fun F j => l_X12_greatestPart_4 F (nI k) (e1 (wst p d k j)) (nI j) h) p.n (some (e1 (wst p d k p.n), h)) (by
    intro F j hj
    show b_X12_greatestPart_4 (l_X12_greatestPart_4 F) (nI k) _ (nI j) h = l_X12_greatestPart_4 F (nI k) (e1 (if bt (p.pa k) j = true then max (wst p d k j) (d j) else wst p d k j)) (nI (j + 1)) h
    have hw := wst_fr (p := p) (c := d) (k := k) (B := 999) (by omega) j (fun y hy => (hd y (by omega)).2)
    have h3 := hd j hj
    have h4 := h3.2
    unfold FR at hw h4
    unfold b_X12_greatestPart_4
    rw [c.n, if_neg (nI_ge hj (by omega)), if_pos (inb_nI (n := 14) (show k < 14 by omega) (by omega)), nI_cl (show k < 100000 by omega), c.pa hk, m_has _ (show j < 32 by omega), bd_some, if10, nI_cl (show j < 100000 by omega), h3.1, nI_1, if_pos (inb_nI (n := 10) (show j < 10 by omega) (by omega)), if_pos (inb_nI (n := 10) (show j < 10 by omega) (by omega))]
    by_cases e : bt (p.pa k) j = true
    · rw [if_pos e, if_pos e]
      by_cases f : wst p d k j = 1000000
      · rw [f, e1_far, if_pos rfl, Nat.max_eq_left (by omega), e1_far]
      · rw [e1_pos (show wst p d k j < 1000000 by omega), if_neg (nI_n9 (by omega))]
        by_cases g : d j = 1000000
        · rw [g, e1_far, if_pos rfl, Nat.max_eq_right (by omega), e1_far]
        · rw [e1_pos (show d j < 1000000 by omega), if_neg (nI_n9 (by omega)), m_greater (by omega) (by omega), bd_some, e1_pos (by omega)]
    · rw [if_neg e, if_neg e]) (by
    intro F
    show b_X12_greatestPart_4 (l_X12_greatestPart_4 F) (nI k) _ (nI p.n) h = _
    unfold b_X12_greatestPart_4
    rw [c.n, if_pos (Int32.le_refl _)]) (by omega)
  rw [nI_0] at this
  show bd (l_X12_greatestPart_4 FU (nI k) (e1 (wst p d k 0)) 0 h) _ = _
  rw [this]
  rfl
theorem m_fa2 {h : AH} {p : PD} {s : SD} (c : MC h p s) : l_X12_layFar_2 FU 0 h = some ((), hfl h 56 0 0 p.n (fun y => e1 (Jc p s 0 0 y))) := by
  have hn := c.1.n10
  have := lp0 (fun F j => l_X12_layFar_2 F (nI j) (hfl h 56 0 0 j (fun y => e1 (Jc p s 0 0 y)))) p.n (some ((), hfl h 56 0 0 p.n (fun y => e1 (Jc p s 0 0 y)))) (by
    intro F j hj
    show b_X12_layFar_2 (l_X12_layFar_2 F) (nI j) (hfl h 56 0 0 j (fun y => e1 (Jc p s 0 0 y))) = l_X12_layFar_2 F (nI (j + 1)) (hfl h 56 0 0 (j + 1) (fun y => e1 (Jc p s 0 0 y)))
    have hb : inb (nI j) 10 = true := inb_nI (by omega) (by omega)
    have ck : MC (hfl h 56 0 0 j (fun y => e1 (Jc p s 0 0 y))) p s := c.fr (KM.rfl.fl (by omega) (by omega) (by omega))
    rw [← hfl_s0]
    unfold b_X12_layFar_2
    rw [ck.n, if_neg (nI_ge hj (by omega)), nI_cl (by omega), ck.ki hj, m_standNow ck, bd_some, m_has _ (by omega), bd_some, if10, nI_1]
    simp only [if_pos hb]
    rw [m_init c 0 hj]
    rcases Jc00 p s 0 j with e | e
    · rw [if_pos e, e]; rfl
    · rw [if_neg (by omega), e, e1_far]) (by
    intro F
    show b_X12_layFar_2 (l_X12_layFar_2 F) (nI p.n) _ = _
    unfold b_X12_layFar_2
    rw [hfl_k (a := 34) (by decide), c.n, if_pos (Int32.le_refl _)]) (by omega)
  simp only [nI_0, hfl_0] at this
  exact this
theorem FrP_fr {p : PD} {s : SD} {r : Nat} (hr : r < 999) (x j : Nat) : FR 999 (FrP p s r x j) := by
  have := Fr_fr p s x r
  unfold FR at this
  unfold FrP FR
  split
  · omega
  · split <;> omega
theorem m_fa36 {h : AH} {p : PD} {s : SD} (c : MC h p s) {r : Nat} (hr : r < 999) (hv : MV h p 55 999 e1 (Fr p s r)) (ht : MV h p 56 999 e1 (Fr p s r)) : ∃ h2, l_X12_layFar_36 FU (nI (r + 1)) 0 h = some ((), h2) ∧ SM h h2 ∧ MV h2 p 56 999 e1 (Fr p s (r + 1)) := by
  have hn := c.1.n10
  have hm := c.1.m14
  have := lpi (fun F (q : Int32 × AH) => l_X12_layFar_36 F (nI (r + 1)) q.1 q.2) p.m
    (fun j q => q.1 = nI j ∧ SM h q.2 ∧ q.2.1 55 = h.1 55 ∧ MV q.2 p 56 999 e1 (fun x => FrP p s r x j))
    (fun o => ∃ h2, o = some ((), h2) ∧ SM h h2 ∧ MV h2 p 56 999 e1 (Fr p s (r + 1))) (by
    rintro F j ⟨i, g⟩ hj ⟨q1, q2, q3, q4⟩
    simp only at q1 q2 q3 q4
    subst q1
    right
    have ck := c.fr q2.k
    have hcn := c.1.con hj
    have h10 := c.1.co10 hj
    have hb : inb (nI j) 14 = true := inb_nI (by omega) (by omega)
    have hb2 : inb (nI (p.co j)) 10 = true := inb_nI (by omega) (by omega)
    have hvg : MV g p 55 999 e1 (Fr p s r) := fun y hy => by rw [q3]; exact hv y hy
    have hT := (q4 (p.co j) hcn)
    have hT2 : FR 999 (FrP p s r (p.co j) j) := hT.2
    have hw := wst_fr (p := p) (c := Fr p s r) (k := j) (B := 999) (by omega) p.n (fun y hy => (hv y hy).2)
    show ∃ t2 : Int32 × AH, _ ∧ b_X12_layFar_36 (l_X12_layFar_36 F) (nI (r + 1)) (nI j) g = l_X12_layFar_36 F (nI (r + 1)) t2.1 t2.2
    unfold b_X12_layFar_36
    rw [ck.m, if_neg (nI_ge hj (by omega)), m_isUsable ck hj, bd_some, if10, m_greatest ck hvg hj, bd_some, nI_cl (show j < 100000 by omega), ck.co hj, nI_cl (show p.co j < 100000 by omega), nI_1]
    simp only [if_pos hb2, if_pos hb, hT.1]
    have hs : ∀ y, FrP p s r y (j + 1) = if Fr p s r y < 1000000 then Fr p s r y else if (anyN (fun k => decide (p.co k = y) && (us p s k && decide (wst p (Fr p s r) k p.n < 1000000))) j || (decide (p.co j = y) && (us p s j && decide (wst p (Fr p s r) j p.n < 1000000)))) = true then r + 1 else 1000000 := fun y => rfl
    have same : (∀ y, y < p.n → FrP p s r y (j + 1) = FrP p s r y j) → ∃ t2 : Int32 × AH, (t2.1 = nI (j + 1) ∧ SM h t2.2 ∧ t2.2.1 55 = h.1 55 ∧ MV t2.2 p 56 999 e1 (fun x => FrP p s r x (j + 1))) ∧ l_X12_layFar_36 F (nI (r + 1)) (nI (j + 1)) (hsI g 56 0 (p.co j) (e1 (FrP p s r (p.co j) j))) = l_X12_layFar_36 F (nI (r + 1)) t2.1 t2.2 := by
      intro hz
      refine ⟨(nI (j + 1), g), ⟨rfl, q2, q3, fun y hy => ?_⟩, ?_⟩
      · show g.1 56 0 y = e1 (FrP p s r y (j + 1)) ∧ FR 999 (FrP p s r y (j + 1))
        rw [hz y hy]; exact q4 y hy
      · rw [← hT.1, hsI_self]
    have no : (decide (p.co j = p.co j) && (us p s j && decide (wst p (Fr p s r) j p.n < 1000000))) = false → ∀ y, y < p.n → FrP p s r y (j + 1) = FrP p s r y j := by
      intro z y hy
      rw [hs]
      have : (decide (p.co j = y) && (us p s j && decide (wst p (Fr p s r) j p.n < 1000000))) = false := by
        by_cases w : p.co j = y
        · rw [decide_eq_true w]
          rw [decide_eq_true rfl] at z
          exact z
        · rw [decide_eq_false w]; rfl
      rw [this, Bool.or_false]
      rfl
    by_cases f : FrP p s r (p.co j) j = 1000000
    · rw [if_pos ((e1_neg (hT2.up (by omega))).mpr f)]
      by_cases u : us p s j = true
      · rw [if_pos u]
        by_cases w : wst p (Fr p s r) j p.n = 1000000
        · rw [if_pos ((e1_neg (hw.up (by omega))).mpr w)]
          exact same (no (by rw [decide_eq_false (show ¬ wst p (Fr p s r) j p.n < 1000000 by omega)]; simp))
        · rw [if_neg (fun z => w ((e1_neg (hw.up (by omega))).mp z))]
          refine ⟨(nI (j + 1), hsI g 56 0 (p.co j) (nI (r + 1))), ⟨rfl, q2.sI (by omega), by rw [hsI_k (by decide)]; exact q3, fun y hy => ?_⟩, rfl⟩
          show (hsI g 56 0 (p.co j) (nI (r + 1))).1 56 0 y = e1 (FrP p s r y (j + 1)) ∧ FR 999 (FrP p s r y (j + 1))
          refine ⟨?_, FrP_fr hr _ _⟩
          rw [hsI_1]
          have hwl : wst p (Fr p s r) j p.n < 1000000 := by unfold FR at hw; omega
          by_cases z : y = p.co j
          · have hF : ¬ Fr p s r y < 1000000 := by
              intro q
              have : FrP p s r (p.co j) j = Fr p s r (p.co j) := by unfold FrP; rw [if_pos (by rw [← z]; exact q)]
              rw [z] at q
              omega
            rw [if_pos ⟨rfl, rfl, z⟩, hs, if_neg hF, if_pos (by rw [decide_eq_true z.symm, u, decide_eq_true hwl]; simp), e1_pos (by omega)]
          · rw [if_neg (fun w => z w.2.2), hs, decide_eq_false (fun w => z w.symm), Bool.false_and, Bool.or_false]
            exact (q4 y hy).1
      · rw [if_neg u]
        exact same (no (by simp [u]))
    · rw [if_neg (fun z => f ((e1_neg (hT2.up (by omega))).mp z))]
      refine same (fun y hy => ?_)
      by_cases z : y = p.co j
      · subst z
        rw [hs]
        unfold FrP at f ⊢
        by_cases q : Fr p s r (p.co j) < 1000000
        · rw [if_pos q, if_pos q]
        · rw [if_neg q] at f ⊢
          rw [if_neg q]
          by_cases q2 : anyN (fun k => decide (p.co k = p.co j) && (us p s k && decide (wst p (Fr p s r) k p.n < 1000000))) j = true
          · rw [if_pos q2, if_pos (by rw [q2]; rfl)]
          · rw [if_neg q2] at f; omega
      · rw [hs, decide_eq_false (fun w => z w.symm), Bool.false_and, Bool.or_false]
        rfl) (by
    rintro F ⟨i, g⟩ ⟨q1, q2, q3, q4⟩
    simp only at q1 q2 q3 q4
    subst q1
    have ck := c.fr q2.k
    show ∃ h2, b_X12_layFar_36 (l_X12_layFar_36 F) (nI (r + 1)) (nI p.m) g = _ ∧ _
    unfold b_X12_layFar_36
    rw [ck.m, if_pos (Int32.le_refl _)]
    exact ⟨g, rfl, q2, q4⟩) (by omega) (0, h) ⟨rfl, SM.rfl, rfl, fun y hy => by
      have : FrP p s r y 0 = Fr p s r y := by
        have h1 := (ht y hy).2
        unfold FR at h1
        unfold FrP
        show (if Fr p s r y < 1000000 then Fr p s r y else if false = true then r + 1 else 1000000) = _
        split
        · rfl
        · rw [if_neg (by decide)]; omega
      show h.1 56 0 y = e1 (FrP p s r y 0) ∧ FR 999 (FrP p s r y 0)
      rw [this]; exact ht y hy⟩
  exact this
