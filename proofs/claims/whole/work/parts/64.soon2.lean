theorem m_layFar {h : AH} {p : PD} {s : SD} (c : MC h p s) : ∃ h2, f_X12_layFar h = some ((), h2) ∧ SM h h2 ∧ MV h2 p 55 999 e1 (JE p s 0) := by
  have hn := c.1.n10
  unfold f_X12_layFar
  rw [m_fa2 c, bd_some]
  unfold c_X12_layFar_26
  have s0 : SM h (hfl h 56 0 0 p.n (fun y => e1 (Jc p s 0 0 y))) := SM.rfl.fl (by omega)
  have := lpi (fun F (q : Int32 × AH) => l_X12_layFar_28 F q.1 q.2) p.n
    (fun j q => q.1 = nI (j + 1) ∧ SM h q.2 ∧ MV q.2 p 56 999 e1 (Fr p s j))
    (fun o => ∃ h2, o = some ((), h2) ∧ SM h h2 ∧ MV h2 p 56 999 e1 (Fr p s p.n)) (by
    rintro F j ⟨i, g⟩ hj ⟨q1, q2, q3⟩
    simp only at q1 q2 q3
    subst q1
    right
    have ck := c.fr q2.k
    show ∃ t2 : Int32 × AH, _ ∧ b_X12_layFar_28 (l_X12_layFar_28 F) (nI (j + 1)) g = l_X12_layFar_28 F t2.1 t2.2
    unfold b_X12_layFar_28
    have s1 : SM h (hfl g 55 0 0 p.n (g.1 56 0)) := q2.fl (by omega)
    have c1 := c.fr s1.k
    obtain ⟨h2, r1, r2, r3⟩ := m_fa36 c1 (r := j) (by omega) (fun y hy => by rw [hfl_1, if_pos (by omega)]; exact q3 y hy) (fun y hy => by rw [hfl_k (a := 56) (by decide)]; exact q3 y hy)
    rw [ck.n, if_neg (fun z => by have := (nI_ltI (by omega) (by omega)).mp z; omega), m_takeT ck, bd_some, r1, bd_some]
    refine ⟨(nI (j + 1 + 1), h2), ⟨rfl, s1.tr r2, r3⟩, ?_⟩
    unfold c_X12_layFar_72
    rw [nI_1]) (by
    rintro F ⟨i, g⟩ ⟨q1, q2, q3⟩
    simp only at q1 q2 q3
    subst q1
    have ck := c.fr q2.k
    show ∃ h2, b_X12_layFar_28 (l_X12_layFar_28 F) (nI (p.n + 1)) g = _ ∧ _
    unfold b_X12_layFar_28
    rw [ck.n, if_pos ((nI_ltI (by omega) (by omega)).mpr (by omega))]
    exact ⟨g, rfl, q2, q3⟩) (by omega) (1, hfl h 56 0 0 p.n (fun y => e1 (Jc p s 0 0 y))) ⟨rfl, s0, fun y hy => ⟨by
      show (hfl h 56 0 0 p.n (fun y => e1 (Jc p s 0 0 y))).1 56 0 y = _
      rw [hfl_1, if_pos (by omega)]; rfl, by
      rcases Jc00 p s 0 y with e | e
      · exact Or.inl (by show Jc p s 0 0 y ≤ 999; omega)
      · exact Or.inr e⟩⟩
  obtain ⟨h2, a, b, d⟩ := this
  have a' : l_X12_layFar_28 FU 1 (hfl h 56 0 0 p.n (fun y => e1 (Jc p s 0 0 y))) = some ((), h2) := a
  rw [a', bd_some]
  unfold c_X12_layFar_74
  rw [m_takeT (c.fr b.k), bd_some]
  refine ⟨_, rfl, b.fl (by omega), fun y hy => ?_⟩
  rw [hfl_1, if_pos (by omega), ← Fr_JE c.1 s hy]
  exact d y hy
theorem m_so23 {h : AH} {p : PD} {s : SD} (c : MC h p s) (hv : MV h p 55 999 e1 (JE p s 0)) {x : Nat} (hx : x < p.n) (hf : JE p s 0 x < 1000000) : l_X12_soonest_23 FU (nI x) (-9) (nI p.m - 1) h = some (fsN (flk p s 0 x) p.m, h) := by
  have hn := c.1.n10
  have hm := c.1.m14
  have := lp0 (fun F i => l_X12_soonest_23 F (nI x) (fdN (flk p s 0 x) p.m i) (if i = p.m then -1 else nI (p.m - 1 - i)) h) p.m (some (fdN (flk p s 0 x) p.m p.m, h)) (by
    intro F i hi
    show b_X12_soonest_23 (l_X12_soonest_23 F) (nI x) _ _ h = l_X12_soonest_23 F (nI x) (fdN (flk p s 0 x) p.m (i + 1)) (if i + 1 = p.m then -1 else nI (p.m - 1 - (i + 1))) h
    have hl : p.m - 1 - i < p.m := by omega
    have h10 := c.1.co10 hl
    have e1' : (nI (p.co (p.m - 1 - i)) = nI x) ↔ p.co (p.m - 1 - i) = x := nI_eq (by omega) (by omega)
    have hw := wst_fr (p := p) (c := JE p s 0) (k := p.m - 1 - i) (B := 999) (by omega) p.n (fun y hy => (hv y hy).2)
    have hxv := (hv x hx).2
    unfold b_X12_soonest_23
    rw [if_neg (show ¬ i = p.m by omega), if_neg (nI_pos (by omega)), m_greatest c hv hl, bd_some, if_pos (inb_nI (n := 14) (by omega) (by omega)), nI_cl (by omega), c.co hl, m_isUsable c hl, bd_some, if10, nI_dn hi, fdN_s, if_pos (inb_nI (n := 10) (show x < 10 by omega) (by omega)), nI_cl (show x < 100000 by omega), (hv x hx).1, e1_pos hf]
    unfold flk
    by_cases e : p.co (p.m - 1 - i) = x
    · rw [if_pos (e1'.mpr e), decide_eq_true e]
      cases us p s (p.m - 1 - i)
      · rw [if_neg (by decide), Bool.false_and, Bool.and_false, if_neg (c := false = true) (by decide)]
      · rw [if_pos rfl]
        by_cases w : wst p (JE p s 0) (p.m - 1 - i) p.n = 1000000
        · have hk : fk p s 0 (p.m - 1 - i) (JE p s 0) = 1000000 := by unfold fk; rw [if_neg (by omega)]
          rw [if_pos ((e1_neg (hw.up (by omega))).mpr w), hk, decide_eq_false (show ¬ 1000000 = JE p s 0 x by omega), if_neg (c := (true && (true && false)) = true) (by decide)]
        · have w9 : wst p (JE p s 0) (p.m - 1 - i) p.n ≤ 999 := by unfold FR at hw; omega
          have hk : fk p s 0 (p.m - 1 - i) (JE p s 0) = wst p (JE p s 0) (p.m - 1 - i) p.n + 1 := by unfold fk; rw [if_pos (by omega), if_pos rfl]; omega
          rw [if_neg (fun z => w ((e1_neg (hw.up (by omega))).mp z)), e1_pos (show wst p (JE p s 0) (p.m - 1 - i) p.n < 1000000 by omega), nI_1, hk]
          have e2' : (nI (wst p (JE p s 0) (p.m - 1 - i) p.n + 1) = nI (JE p s 0 x)) ↔ wst p (JE p s 0) (p.m - 1 - i) p.n + 1 = JE p s 0 x := nI_eq (by omega) (by omega)
          by_cases f : wst p (JE p s 0) (p.m - 1 - i) p.n + 1 = JE p s 0 x
          · rw [if_pos (e2'.mpr f), decide_eq_true f, if_pos (c := (true && (true && true)) = true) rfl]
          · rw [if_neg (fun z => f (e2'.mp z)), decide_eq_false f, if_neg (c := (true && (true && false)) = true) (by decide)]
    · rw [if_neg (fun z => e (e1'.mp z)), decide_eq_false e, Bool.false_and, if_neg (c := false = true) (by decide)]) (by
    intro F
    show b_X12_soonest_23 (l_X12_soonest_23 F) (nI x) _ _ h = _
    unfold b_X12_soonest_23
    rw [if_pos rfl, if_pos (by decide)]) (by omega)
  rw [fdN_all] at this
  by_cases e : 0 = p.m
  · rw [if_pos e] at this
    rw [← e]
    rw [← e] at this
    exact this
  · rw [if_neg e, Nat.sub_zero, ← nI_sub1 (by omega)] at this
    exact this
theorem e_soonest : E1 Rel f_X11_soonest f_X12_soonest := by
  intro a hx hm h
  show OR _ _
  obtain ⟨b, p, s, d⟩ := h
  have h : Rel hx hm := ⟨b, p, s, d⟩
  have hn := d.1.n10
  unfold f_X11_soonest f_X12_soonest
  rw [x_isClaim d.x, m_isClaim d.m, bd_some, bd_some, if10, if10]
  by_cases hb : inb a p.n = true
  rotate_left
  · rw [if_neg hb, if_neg hb]; exact OR.same h rfl rfl
  obtain ⟨x, hxn, rfl⟩ := inb_ex hb
  obtain ⟨hx2, a1, a2, a3⟩ := x_least d.x (me := 0) (by omega) hxn
  obtain ⟨hm2, b1, b2, b3⟩ := m_layFar d.m
  have cm := d.m.fr b2.k
  have cx := d.x.fr a2.k
  have hf := (b3 x hxn).2
  rw [show nI 0 = (0 : Int32) from rfl] at a1
  rw [if_pos hb, if_pos hb, a1, bd_some, b1, bd_some, if_pos (inb_nI (n := 10) (show x < 10 by omega) (by omega)), nI_cl (by omega), (b3 x hxn).1]
  by_cases e : JE p s 0 x = 1000000
  · rw [e, e1_far, if_pos rfl, if_pos rfl]
    exact OR.same (h.sc a2 b2) rfl rfl
  · have e' := e
    unfold FR at hf
    have hx3 := x_firstL cx (me := 0) (by omega) a3 hxn (by omega)
    rw [show nI 0 = (0 : Int32) from rfl] at hx3
    rw [e1_pos (by omega), if_neg (nI_n9 (by omega)), if_neg (nI_n9 (by omega)), hx3, bd_some, cm.m, m_so23 cm b3 hxn (by omega), bd_some]
    unfold c_X12_soonest_56
    rw [if_pos (inb_nI (n := 10) (show x < 10 by omega) (by omega)), nI_cl (by omega), (b3 x hxn).1, m_tells, bd_some, e1_pos (by omega)]
    exact OR.told (h.sc a2 b2) _ rfl rfl
