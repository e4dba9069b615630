/-! ===== sure, by the reference ===== -/
def e2 (c : Nat) : Int32 := if c < 1000000 then nI (9 - c) else -9
theorem e2_pos {c : Nat} (h : c < 1000000) : e2 c = nI (9 - c) := if_pos h
theorem e2_far : e2 1000000 = -9 := if_neg (by omega)
theorem e2_neg {c : Nat} (h : FR 9 c) : e2 c = -9 ↔ c = 1000000 := by
  unfold FR at h
  by_cases e : c = 1000000
  · rw [e, e2_far]; exact ⟨fun _ => rfl, fun _ => rfl⟩
  · rw [e2_pos (by omega)]
    exact ⟨fun z => absurd z (nI_n9 (by omega)), fun z => absurd z e⟩
theorem nI_gt9 {a : Nat} (h : a < 100000) : ¬ nI a ≤ (-9 : Int32) := by
  rw [i_le, nI_toInt (by omega)]
  have : (-9 : Int32).toInt = -9 := rfl
  omega
theorem nI_ge9 {a : Nat} (h : a < 100000) : (-9 : Int32) ≤ nI a := by
  rw [i_le, nI_toInt (by omega)]
  have : (-9 : Int32).toInt = -9 := rfl
  omega
/-- the greater of two is the lesser doubt -/
theorem m_great2 {a b : Nat} (ha : FR 9 a) (hb : FR 9 b) (h : AH) : f_X12_greater (e2 a) (e2 b) h = some (e2 (min a b), h) := by
  unfold FR at ha hb
  unfold f_X12_greater
  by_cases e : a = 1000000
  · rw [e, e2_far]
    by_cases f : b = 1000000
    · rw [f, e2_far, if_pos (Int32.le_refl _)]
      show _ = some (e2 1000000, h)
      rw [e2_far]
    · rw [e2_pos (by omega), if_pos (nI_ge9 (by omega)), Nat.min_eq_right (by omega), e2_pos (by omega)]
  · rw [e2_pos (show a < 1000000 by omega)]
    by_cases f : b = 1000000
    · rw [f, e2_far, if_neg (nI_gt9 (by omega)), Nat.min_eq_left (by omega), e2_pos (by omega)]
    · rw [e2_pos (show b < 1000000 by omega)]
      by_cases g : b ≤ a
      · rw [if_pos ((nI_leI (by omega) (by omega)).mpr (by omega)), Nat.min_eq_right g, e2_pos (by omega)]
      · rw [if_neg (fun z => by have := (nI_leI (by omega) (by omega)).mp z; omega), Nat.min_eq_left (by omega), e2_pos (by omega)]
theorem m_less2 {a b : Nat} (ha : a ≤ 9) (hb : b ≤ 9) (h : AH) : f_X12_lesser (nI (9 - a)) (nI (9 - b)) h = some (nI (9 - max a b), h) := by
  rw [m_lesser (by omega) (by omega)]
  congr 3
  omega
def dq (p : PD) (s : SD) (c : Nat → Nat) (k j : Nat) : Nat := if wst p c k j < 1000000 then max (wst p c k j) (9 - s.su k) else 1000000
theorem m_leastSure {h : AH} {p : PD} {s : SD} (c : MC h p s) {d : Nat → Nat} (hd : MV h p 55 9 e2 d) {k : Nat} (hk : k < p.m) : f_X12_leastSure (nI k) h = some (e2 (fk p s 2 k d), h) := by
  have hn := c.1.n10
  have hm := c.1.m14
  have hsu := c.2.1.su9 hk
  unfold f_X12_leastSure
  rw [if_pos (inb_nI (n := 14) (show k < 14 by omega) (by omega)), nI_cl (show k < 100000 by omega), c.su hk]
  have := lp0 (fun F j => l_X12_leastSure_7 F (nI k) (e2 (dq p s d k j)) (nI j) h) p.n (some (e2 (dq p s d k p.n), h)) (by
    intro F j hj
    show b_X12_leastSure_7 (l_X12_leastSure_7 F) (nI k) _ (nI j) h = l_X12_leastSure_7 F (nI k) _ (nI (j + 1)) h
    have hw := wst_fr (p := p) (c := d) (k := k) (B := 9) (by omega) j (fun y hy => (hd y (by omega)).2)
    have h3 := hd j hj
    have h4 := h3.2
    unfold FR at hw h4
    have hs : dq p s d k (j + 1) = if bt (p.pa k) j = true then (if max (wst p d k j) (d j) < 1000000 then max (max (wst p d k j) (d j)) (9 - s.su k) else 1000000) else dq p s d k j := by
      unfold dq
      show (if (if bt (p.pa k) j = true then max (wst p d k j) (d j) else wst p d k j) < 1000000 then max (if bt (p.pa k) j = true then max (wst p d k j) (d j) else wst p d k j) (9 - s.su k) else 1000000) = _
      by_cases e : bt (p.pa k) j = true
      · rw [if_pos e, if_pos e]
      · rw [if_neg e, if_neg e]
    unfold b_X12_leastSure_7
    rw [c.n, if_neg (nI_ge hj (by omega)), if_pos (inb_nI (n := 14) (show k < 14 by omega) (by omega)), nI_cl (show k < 100000 by omega), c.pa hk, m_has _ (show j < 32 by omega), bd_some, if10, nI_cl (show j < 100000 by omega), h3.1, nI_1, if_pos (inb_nI (n := 10) (show j < 10 by omega) (by omega)), if_pos (inb_nI (n := 10) (show j < 10 by omega) (by omega)), hs]
    by_cases e : bt (p.pa k) j = true
    · rw [if_pos e, if_pos e]
      by_cases f : wst p d k j < 1000000
      · have s1 : dq p s d k j = max (wst p d k j) (9 - s.su k) := if_pos f
        have s2 : e2 (dq p s d k j) = nI (9 - max (wst p d k j) (9 - s.su k)) := by rw [s1, e2_pos (by omega)]
        rw [s2, if_neg (nI_n9 (by omega))]
        by_cases g : d j = 1000000
        · rw [g, e2_far, if_pos rfl, if_neg (by omega), e2_far]
        · have g2 : d j ≤ 9 := by omega
          rw [e2_pos (show d j < 1000000 by omega), if_neg (nI_n9 (by omega)), m_less2 (by omega) (by omega), bd_some, if_pos (by omega), e2_pos (by omega)]
          congr 2
          omega
      · have s1 : dq p s d k j = 1000000 := if_neg f
        rw [s1, e2_far, if_pos rfl, if_neg (by omega), e2_far]
    · rw [if_neg e, if_neg e]) (by
    intro F
    show b_X12_leastSure_7 (l_X12_leastSure_7 F) (nI k) _ (nI p.n) h = _
    unfold b_X12_leastSure_7
    rw [c.n, if_pos (Int32.le_refl _)]) (by omega)
  rw [nI_0] at this
  have h0 : e2 (dq p s d k 0) = nI (s.su k) := by
    have w0 : wst p d k 0 = 0 := rfl
    unfold dq
    rw [w0, if_pos (by omega), e2_pos (by omega)]
    congr 1
    omega
  rw [h0] at this
  rw [this, bd_some]
  unfold c_X12_leastSure_38 dq fk
  rw [if_neg (show ¬ 2 = 0 by omega), if_neg (show ¬ 2 = 1 by omega)]
theorem m_su8 {h : AH} {p : PD} {s : SD} (c : MC h p s) (x1 : Int32) : l_X12_sure_8 FU x1 0 h = some ((), hfl h 56 0 0 p.n (fun y => e2 (Jc p s 2 0 y))) := by
  have hn := c.1.n10
  have := lp0 (fun F j => l_X12_sure_8 F x1 (nI j) (hfl h 56 0 0 j (fun y => e2 (Jc p s 2 0 y)))) p.n (some ((), hfl h 56 0 0 p.n (fun y => e2 (Jc p s 2 0 y)))) (by
    intro F j hj
    show b_X12_sure_8 (l_X12_sure_8 F) x1 (nI j) (hfl h 56 0 0 j (fun y => e2 (Jc p s 2 0 y))) = l_X12_sure_8 F x1 (nI (j + 1)) (hfl h 56 0 0 (j + 1) (fun y => e2 (Jc p s 2 0 y)))
    have hb : inb (nI j) 10 = true := inb_nI (by omega) (by omega)
    have ck : MC (hfl h 56 0 0 j (fun y => e2 (Jc p s 2 0 y))) p s := c.fr (KM.rfl.fl (by omega) (by omega) (by omega))
    rw [← hfl_s0]
    unfold b_X12_sure_8
    rw [ck.n, if_neg (nI_ge hj (by omega)), nI_cl (by omega), ck.ki hj, m_standNow ck, bd_some, m_has _ (by omega), bd_some, if10, nI_1]
    simp only [if_pos hb]
    rw [m_init c 2 hj]
    rcases Jc00 p s 2 j with e | e
    · rw [if_pos e, e]; rfl
    · rw [if_neg (by omega), e, e2_far]) (by
    intro F
    show b_X12_sure_8 (l_X12_sure_8 F) x1 (nI p.n) _ = _
    unfold b_X12_sure_8
    rw [hfl_k (a := 34) (by decide), c.n, if_pos (Int32.le_refl _)]) (by omega)
  simp only [nI_0, hfl_0] at this
  exact this
theorem fk2_fr {p : PD} {s : SD} {k : Nat} {d : Nat → Nat} (hd : ∀ y, y < p.n → FR 9 (d y)) : FR 9 (fk p s 2 k d) := by
  have hw := wst_fr (p := p) (c := d) (k := k) (B := 9) (by omega) p.n hd
  unfold FR at hw
  unfold fk FR
  split
  · rw [if_neg (by omega), if_neg (by omega)]; omega
  · omega
theorem red2_fr {p : PD} {s : SD} {d : Nat → Nat} {x : Nat} (hd : ∀ y, y < p.n → FR 9 (d y)) (hx : x < p.n) : ∀ j, FR 9 (red p s 2 d x j)
  | 0 => hd x hx
  | j + 1 => by
    have ih := red2_fr (p := p) (s := s) hd hx j
    show FR 9 (if p.co j = x ∧ us p s j = true then Nat.min (red p s 2 d x j) (fk p s 2 j d) else red p s 2 d x j)
    split
    · exact ih.min (fk2_fr hd)
    · exact ih
theorem Jc2_fr {p : PD} {s : SD} : ∀ r x, x < p.n → FR 9 (Jc p s 2 r x)
  | 0, x, _ => by
    rcases Jc00 p s 2 x with e | e
    · exact Or.inl (by omega)
    · exact Or.inr e
  | r + 1, x, hx => red2_fr (fun y hy => Jc2_fr r y hy) hx p.m
theorem m_su42 {h : AH} {p : PD} {s : SD} (c : MC h p s) (x1 x2 : Int32) {d : Nat → Nat} (hv : MV h p 55 9 e2 d) (ht : MV h p 56 9 e2 d) : ∃ h2, l_X12_sure_42 FU x1 x2 0 h = some ((), h2) ∧ SM h h2 ∧ MV h2 p 56 9 e2 (fun x => red p s 2 d x p.m) := by
  have hn := c.1.n10
  have hm := c.1.m14
  have hd : ∀ y, y < p.n → FR 9 (d y) := fun y hy => (hv y hy).2
  have := lpi (fun F (q : Int32 × AH) => l_X12_sure_42 F x1 x2 q.1 q.2) p.m
    (fun j q => q.1 = nI j ∧ SM h q.2 ∧ q.2.1 55 = h.1 55 ∧ MV q.2 p 56 9 e2 (fun x => red p s 2 d x j))
    (fun o => ∃ h2, o = some ((), h2) ∧ SM h h2 ∧ MV h2 p 56 9 e2 (fun x => red p s 2 d x p.m)) (by
    rintro F j ⟨i, g⟩ hj ⟨q1, q2, q3, q4⟩
    simp only at q1 q2 q3 q4
    subst q1
    right
    have ck := c.fr q2.k
    have hcn := c.1.con hj
    have h10 := c.1.co10 hj
    have hb : inb (nI j) 14 = true := inb_nI (by omega) (by omega)
    have hb2 : inb (nI (p.co j)) 10 = true := inb_nI (by omega) (by omega)
    have hvg : MV g p 55 9 e2 d := fun y hy => by rw [q3]; exact hv y hy
    have hT := (q4 (p.co j) hcn)
    have hF : FR 9 (fk p s 2 j d) := fk2_fr hd
    show ∃ t2 : Int32 × AH, _ ∧ b_X12_sure_42 (l_X12_sure_42 F) x1 x2 (nI j) g = l_X12_sure_42 F x1 x2 t2.1 t2.2
    unfold b_X12_sure_42
    rw [ck.m, if_neg (nI_ge hj (by omega)), m_isUsable ck hj, bd_some, if10, m_leastSure ck hvg hj, bd_some, nI_cl (show j < 100000 by omega), ck.co hj, nI_cl (show p.co j < 100000 by omega), nI_1]
    simp only [if_pos hb2, if_pos hb, hT.1]
    have hg0 : f_X12_greater (e2 (red p s 2 d (p.co j) j)) (-9) g = some (e2 (red p s 2 d (p.co j) j), g) := by
      have hT' : FR 9 (red p s 2 d (p.co j) j) := hT.2
      have := m_great2 hT' (Or.inr rfl : FR 9 1000000) g
      rw [e2_far] at this
      rw [this, Nat.min_eq_left (by unfold FR at hT'; omega)]
    rw [hg0, bd_some, m_great2 hT.2 hF, bd_some]
    by_cases u : us p s j = true
    · rw [if_pos u]
      refine ⟨(nI (j + 1), hsI g 56 0 (p.co j) (e2 (min (red p s 2 d (p.co j) j) (fk p s 2 j d)))), ⟨rfl, q2.sI (by omega), by rw [hsI_k (by decide)]; exact q3, fun y hy => ?_⟩, rfl⟩
      show (hsI g 56 0 (p.co j) (e2 (min (red p s 2 d (p.co j) j) (fk p s 2 j d)))).1 56 0 y = e2 (red p s 2 d y (j + 1)) ∧ FR 9 (red p s 2 d y (j + 1))
      rw [hsI_1]
      have hr : red p s 2 d y (j + 1) = if p.co j = y ∧ us p s j = true then min (red p s 2 d y j) (fk p s 2 j d) else red p s 2 d y j := rfl
      rw [hr]
      by_cases z : y = p.co j
      · rw [if_pos ⟨rfl, rfl, z⟩, if_pos ⟨z.symm, u⟩, z]
        exact ⟨rfl, hT.2.min hF⟩
      · rw [if_neg (fun w => z w.2.2), if_neg (fun w => z w.1.symm)]
        exact q4 y hy
    · rw [if_neg u]
      refine ⟨(nI (j + 1), g), ⟨rfl, q2, q3, fun y hy => ?_⟩, ?_⟩
      · show g.1 56 0 y = e2 (red p s 2 d y (j + 1)) ∧ FR 9 (red p s 2 d y (j + 1))
        have hr : red p s 2 d y (j + 1) = if p.co j = y ∧ us p s j = true then min (red p s 2 d y j) (fk p s 2 j d) else red p s 2 d y j := rfl
        rw [hr, if_neg (fun w => u w.2)]
        exact q4 y hy
      · rw [← hT.1, hsI_self]) (by
    rintro F ⟨i, g⟩ ⟨q1, q2, q3, q4⟩
    simp only at q1 q2 q3 q4
    subst q1
    have ck := c.fr q2.k
    show ∃ h2, b_X12_sure_42 (l_X12_sure_42 F) x1 x2 (nI p.m) g = _ ∧ _
    unfold b_X12_sure_42
    rw [ck.m, if_pos (Int32.le_refl _)]
    exact ⟨g, rfl, q2, q4⟩) (by omega) (0, h) ⟨rfl, SM.rfl, rfl, ht⟩
  exact this
theorem m_sure {h : AH} {p : PD} {s : SD} (c : MC h p s) {x : Nat} (hx : x < p.n) : ∃ h2, c_X12_sure_32 (nI x) (hfl h 56 0 0 p.n (fun y => e2 (Jc p s 2 0 y))) = some (e2 (JE p s 2 x), h2) ∧ SM h h2 := by
  have hn := c.1.n10
  have s0 : SM h (hfl h 56 0 0 p.n (fun y => e2 (Jc p s 2 0 y))) := SM.rfl.fl (by omega)
  unfold c_X12_sure_32
  have := lpi (fun F (q : Int32 × AH) => l_X12_sure_34 F (nI x) q.1 q.2) (p.n + 1)
    (fun j q => q.1 = nI j ∧ SM h q.2 ∧ MV q.2 p 56 9 e2 (Jc p s 2 j))
    (fun o => ∃ h2, o = some ((), h2) ∧ SM h h2 ∧ MV h2 p 56 9 e2 (Jc p s 2 (p.n + 1))) (by
    rintro F j ⟨i, g⟩ hj ⟨q1, q2, q3⟩
    simp only at q1 q2 q3
    subst q1
    right
    have ck := c.fr q2.k
    show ∃ t2 : Int32 × AH, _ ∧ b_X12_sure_34 (l_X12_sure_34 F) (nI x) (nI j) g = l_X12_sure_34 F (nI x) t2.1 t2.2
    unfold b_X12_sure_34
    have s1 : SM h (hfl g 55 0 0 p.n (g.1 56 0)) := q2.fl (by omega)
    have c1 := c.fr s1.k
    obtain ⟨h2, r1, r2, r3⟩ := m_su42 c1 (nI x) (nI j) (d := Jc p s 2 j) (fun y hy => by rw [hfl_1, if_pos (by omega)]; exact q3 y hy) (fun y hy => by rw [hfl_k (a := 56) (by decide)]; exact q3 y hy)
    rw [ck.n, if_neg (fun z => by have := (nI_ltI (by omega) (by omega)).mp z; omega), m_takeT ck, bd_some, r1, bd_some]
    refine ⟨(nI (j + 1), h2), ⟨rfl, s1.tr r2, r3⟩, ?_⟩
    unfold c_X12_sure_74
    rw [nI_1]) (by
    rintro F ⟨i, g⟩ ⟨q1, q2, q3⟩
    simp only at q1 q2 q3
    subst q1
    have ck := c.fr q2.k
    show ∃ h2, b_X12_sure_34 (l_X12_sure_34 F) (nI x) (nI (p.n + 1)) g = _ ∧ _
    unfold b_X12_sure_34
    rw [ck.n, if_pos ((nI_ltI (by omega) (by omega)).mpr (by omega))]
    exact ⟨g, rfl, q2, q3⟩) (by omega) (0, hfl h 56 0 0 p.n (fun y => e2 (Jc p s 2 0 y))) ⟨rfl, s0, fun y hy => ⟨by
      show (hfl h 56 0 0 p.n (fun y => e2 (Jc p s 2 0 y))).1 56 0 y = _
      rw [hfl_1, if_pos (by omega)]; rfl, Jc2_fr 0 y hy⟩⟩
  obtain ⟨h2, a, b, d⟩ := this
  have a' : l_X12_sure_34 FU (nI x) 0 (hfl h 56 0 0 p.n (fun y => e2 (Jc p s 2 0 y))) = some ((), h2) := a
  refine ⟨h2, ?_, b⟩
  rw [a', bd_some]
  unfold c_X12_sure_76
  rw [if_pos (inb_nI (n := 10) (by omega) (by omega)), nI_cl (by omega), (d x hx).1, JE_ge p s 2 (by omega) hx]
theorem e_sure : E1 Rel f_X11_sure f_X12_sure := by
  intro a hx hm h
  show OR _ _
  obtain ⟨b, p, s, d⟩ := h
  have h : Rel hx hm := ⟨b, p, s, d⟩
  have hn := d.1.n10
  unfold f_X11_sure f_X12_sure
  rw [x_isClaim d.x, m_isClaim d.m, bd_some, bd_some, if10, if10]
  by_cases hb : inb a p.n = true
  rotate_left
  · rw [if_neg hb, if_neg hb]; exact OR.same h rfl rfl
  obtain ⟨x, hxn, rfl⟩ := inb_ex hb
  obtain ⟨hx2, a1, a2, a3⟩ := x_least d.x (me := 2) (by omega) hxn
  obtain ⟨hm2, b1, b2⟩ := m_sure d.m hxn
  have hf : FR 9 (JE p s 2 x) := Jc2_fr p.n x hxn
  rw [if_pos hb, if_pos hb, show (2 : Int32) = nI 2 from rfl, a1, bd_some, m_su8 d.m, bd_some, b1]
  by_cases e : JE p s 2 x = 1000000
  · rw [e, e1_far, e2_far, if_pos rfl]
    exact OR.same (h.sc a2 b2) rfl rfl
  · unfold FR at hf
    rw [e1_pos (by omega), e2_pos (by omega), if_neg (nI_n9 (by omega)), show (9 : Int32) - nI (JE p s 2 x) = nI (9 - JE p s 2 x) from nI_sub (a := 9) (by omega)]
    exact OR.same (h.sc a2 b2) rfl rfl
