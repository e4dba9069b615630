/-! ===== where one can be brought to a loss: the reference; lost, never, game ===== -/
theorem pa_any {p : PD} (v : PV p) {k : Nat} (hk : k < p.m) (L : Int32) : anyN (fun y => bt (p.pa k) y && bt L y) p.n = false ↔ p.pa k &&& L = 0 := by
  rw [anyN_f, bt_eq0]
  constructor
  · intro h i hi
    rw [bt_and]
    by_cases e : i < p.n
    · exact h i e
    · cases f : bt (p.pa k) i
      · rfl
      · exact absurd (v.pan hk i f) e
  · intro h i hi
    have := h i (by have := v.n10; omega)
    rw [bt_and] at this
    exact this
theorem m_hasLost {h : AH} {p : PD} {s : SD} (c : MC h p s) {L : Int32} (hv : ∀ x, x < p.n → (h.1 55 0 x = -9 ↔ bt L x = false)) {k : Nat} (hk : k < p.m) : f_X12_hasLost (nI k) h = some (if p.pa k &&& L = 0 then 0 else 1, h) := by
  have hn := c.1.n10
  have hm := c.1.m14
  unfold f_X12_hasLost
  have := lp0 (fun F j => l_X12_hasLost_4 F (nI k) (if anyN (fun y => bt (p.pa k) y && bt L y) j = true then 1 else 0) (nI j) h) p.n (some (if anyN (fun y => bt (p.pa k) y && bt L y) p.n = true then 1 else 0, h)) (by
    intro F j hj
    show b_X12_hasLost_4 (l_X12_hasLost_4 F) (nI k) _ (nI j) h = l_X12_hasLost_4 F (nI k) (if (anyN (fun y => bt (p.pa k) y && bt L y) j || (bt (p.pa k) j && bt L j)) = true then 1 else 0) (nI (j + 1)) h
    unfold b_X12_hasLost_4
    rw [c.n, if_neg (nI_ge hj (by omega)), if10, if_pos (inb_nI (n := 14) (show k < 14 by omega) (by omega)), nI_cl (show k < 100000 by omega), c.pa hk, m_has _ (show j < 32 by omega), bd_some, if10, if_pos (inb_nI (n := 10) (show j < 10 by omega) (by omega)), nI_cl (show j < 100000 by omega), nI_1]
    cases anyN (fun y => bt (p.pa k) y && bt L y) j
    · rw [if_neg (by decide), Bool.false_or]
      cases bt (p.pa k) j
      · rw [if_neg (by decide), Bool.false_and, if_neg (by decide)]
      · rw [if_pos rfl, Bool.true_and]
        by_cases e : bt L j = false
        · rw [if_pos ((hv j hj).mpr e), e, if_neg (by decide)]
        · rw [if_neg (fun z => e ((hv j hj).mp z)), if_pos (by simpa using e)]
    · rw [if_pos rfl, Bool.true_or, if_pos rfl]) (by
    intro F
    show b_X12_hasLost_4 (l_X12_hasLost_4 F) (nI k) _ (nI p.n) h = _
    unfold b_X12_hasLost_4
    rw [c.n, if_pos (Int32.le_refl _)]) (by omega)
  rw [nI_0] at this
  show bd (l_X12_hasLost_4 FU (nI k) (if anyN (fun y => bt (p.pa k) y && bt L y) 0 = true then 1 else 0) 0 h) _ = _
  rw [this, bd_some]
  unfold c_X12_hasLost_29
  rw [znc]
  by_cases e : p.pa k &&& L = 0
  · rw [if_pos e, (pa_any c.1 hk L).mpr e, if_neg (by decide)]
  · rw [if_neg e, if_pos]
    cases f : anyN (fun y => bt (p.pa k) y && bt L y) p.n
    · exact absurd ((pa_any c.1 hk L).mp f) e
    · rfl
theorem m_allLost {h : AH} {p : PD} {s : SD} (c : MC h p s) {L : Int32} (hv : ∀ x, x < p.n → (h.1 55 0 x = -9 ↔ bt L x = false)) {x : Nat} (hx : x < p.n) : f_X12_areAllLost (nI x) h = some (if anyN (bdk p s L x) p.m = true then 0 else 1, h) := by
  have hn := c.1.n10
  have hm := c.1.m14
  unfold f_X12_areAllLost
  have := lp0 (fun F j => l_X12_areAllLost_4 F (nI x) (if anyN (bdk p s L x) j = true then 0 else 1) (nI j) h) p.m (some (if anyN (bdk p s L x) p.m = true then 0 else 1, h)) (by
    intro F j hj
    show b_X12_areAllLost_4 (l_X12_areAllLost_4 F) (nI x) _ (nI j) h = l_X12_areAllLost_4 F (nI x) (if (anyN (bdk p s L x) j || (decide (p.co j = x) && (us p s j && decide (p.pa j &&& L = 0)))) = true then 0 else 1) (nI (j + 1)) h
    have h10 := c.1.co10 hj
    have e1 : (nI (p.co j) = nI x) ↔ p.co j = x := nI_eq (by omega) (by omega)
    unfold b_X12_areAllLost_4
    rw [c.m, if_neg (nI_ge hj (by omega)), if_pos (inb_nI (n := 14) (show j < 14 by omega) (by omega)), nI_cl (show j < 100000 by omega), c.co hj, m_isUsable c hj, bd_some, if10, m_hasLost c hv hj, bd_some, nI_1]
    cases anyN (bdk p s L x) j
    · rw [if_neg (by decide), Bool.false_or]
      by_cases e : p.co j = x
      · rw [if_pos (e1.mpr e), decide_eq_true e, Bool.true_and]
        cases us p s j
        · rw [if_neg (by decide), Bool.false_and, if_neg (by decide)]
        · rw [if_pos rfl, Bool.true_and]
          by_cases f : p.pa j &&& L = 0
          · rw [if_pos f, if_pos rfl, if_pos (decide_eq_true f)]
          · rw [if_neg f, if_neg i10, if_neg (by rw [decide_eq_false f]; decide)]
      · rw [if_neg (fun z => e (e1.mp z)), decide_eq_false e, Bool.false_and, if_neg (by decide)]
    · rw [if_pos rfl, if_pos rfl, Bool.true_or, if_pos rfl]) (by
    intro F
    show b_X12_areAllLost_4 (l_X12_areAllLost_4 F) (nI x) _ (nI p.m) h = _
    unfold b_X12_areAllLost_4
    rw [c.m, if_pos (Int32.le_refl _)]) (by omega)
  rw [nI_0] at this
  show bd (l_X12_areAllLost_4 FU (nI x) (if anyN (bdk p s L x) 0 = true then 0 else 1) 0 h) _ = _
  rw [this, bd_some]
  unfold c_X12_areAllLost_30
  cases anyN (bdk p s L x) p.m
  · rw [if_neg (by decide), zn1]
  · rw [if_pos rfl, zn0]
theorem m_takeT {h : AH} {p : PD} {s : SD} (c : MC h p s) : f_X12_takeThens h = some ((), hfl h 55 0 0 p.n (h.1 56 0)) := by
  have hn := c.1.n10
  unfold f_X12_takeThens
  have := lp0 (fun F j => l_X12_takeThens_2 F (nI j) (hfl h 55 0 0 j (h.1 56 0))) p.n (some ((), hfl h 55 0 0 p.n (h.1 56 0))) (by
    intro F j hj
    show b_X12_takeThens_2 (l_X12_takeThens_2 F) (nI j) (hfl h 55 0 0 j (h.1 56 0)) = l_X12_takeThens_2 F (nI (j + 1)) (hfl h 55 0 0 (j + 1) (h.1 56 0))
    have hb : inb (nI j) 10 = true := inb_nI (by omega) (by omega)
    rw [← hfl_s0]
    unfold b_X12_takeThens_2
    rw [hfl_k (a := 34) (by decide), c.n, if_neg (nI_ge hj (by omega)), if_pos hb, if_pos hb, nI_cl (by omega), nI_1, hfl_k (a := 56) (by decide)]) (by
    intro F
    show b_X12_takeThens_2 (l_X12_takeThens_2 F) (nI p.n) _ = _
    unfold b_X12_takeThens_2
    rw [hfl_k (a := 34) (by decide), c.n, if_pos (Int32.le_refl _)]) (by omega)
  simp only [nI_0, hfl_0] at this
  rw [this]
  rfl
theorem bt_LSt {p : PD} (v : PV p) (s : SD) {x : Nat} (hx : x < p.n) : bt (LSt p s) x = atL p s x := by
  rw [LSt, bt_ms _ _ (by have := v.n10; omega), decide_eq_true hx, Bool.true_and]
theorem m_los2 {h : AH} {p : PD} {s : SD} (c : MC h p s) : l_X12_layLoss_2 FU 0 h = some ((), hfl h 56 0 0 p.n (lv p s 0)) := by
  have hn := c.1.n10
  have := lp0 (fun F j => l_X12_layLoss_2 F (nI j) (hfl h 56 0 0 j (lv p s 0))) p.n (some ((), hfl h 56 0 0 p.n (lv p s 0))) (by
    intro F j hj
    show b_X12_layLoss_2 (l_X12_layLoss_2 F) (nI j) (hfl h 56 0 0 j (lv p s 0)) = l_X12_layLoss_2 F (nI (j + 1)) (hfl h 56 0 0 (j + 1) (lv p s 0))
    have hb : inb (nI j) 10 = true := inb_nI (by omega) (by omega)
    have ck : MC (hfl h 56 0 0 j (lv p s 0)) p s := c.fr (KM.rfl.fl (by omega) (by omega) (by omega))
    rw [← hfl_s0]
    unfold b_X12_layLoss_2
    rw [ck.n, if_neg (nI_ge hj (by omega)), m_isAtLoss ck hj, bd_some, if10, if_pos hb, if_pos hb, nI_cl (by omega), nI_1]
    show _ = l_X12_layLoss_2 F (nI (j + 1)) (hsI _ 56 0 j (if bt (LSt p s) j = true then 0 else -9))
    rw [bt_LSt c.1 s hj]
    by_cases e : atL p s j = true
    · rw [if_pos e, if_pos e]
    · rw [if_neg e, if_neg e]) (by
    intro F
    show b_X12_layLoss_2 (l_X12_layLoss_2 F) (nI p.n) _ = _
    unfold b_X12_layLoss_2
    rw [hfl_k (a := 34) (by decide), c.n, if_pos (Int32.le_refl _)]) (by omega)
  simp only [nI_0, hfl_0] at this
  exact this
theorem m_los29 {h : AH} {p : PD} {s : SD} (c : MC h p s) {r : Nat} (hr : r < 1000) (hv : ∀ x, x < p.n → h.1 55 0 x = lv p s r x) (ht : ∀ x, x < p.n → h.1 56 0 x = lv p s r x) : l_X12_layLoss_29 FU (nI (r + 1)) 0 h = some ((), hfl h 56 0 0 p.n (lv p s (r + 1))) := by
  have hn := c.1.n10
  have := lp0 (fun F j => l_X12_layLoss_29 F (nI (r + 1)) (nI j) (hfl h 56 0 0 j (lv p s (r + 1)))) p.n (some ((), hfl h 56 0 0 p.n (lv p s (r + 1)))) (by
    intro F j hj
    show b_X12_layLoss_29 (l_X12_layLoss_29 F) (nI (r + 1)) (nI j) (hfl h 56 0 0 j (lv p s (r + 1))) = l_X12_layLoss_29 F (nI (r + 1)) (nI (j + 1)) (hfl h 56 0 0 (j + 1) (lv p s (r + 1)))
    have hb : inb (nI j) 10 = true := inb_nI (by omega) (by omega)
    have ck : MC (hfl h 56 0 0 j (lv p s (r + 1))) p s := c.fr (KM.rfl.fl (by omega) (by omega) (by omega))
    have hv' : ∀ x, x < p.n → ((hfl h 56 0 0 j (lv p s (r + 1))).1 55 0 x = -9 ↔ bt (ls p s r) x = false) := fun x hx => by
      rw [hfl_k (a := 55) (by decide), hv x hx]; exact lv_9 p s x r hr
    have htj : (hfl h 56 0 0 j (lv p s (r + 1))).1 56 0 j = lv p s r j := by rw [hfl_1, if_neg (by omega), ht j hj]
    rw [← hfl_s0]
    unfold b_X12_layLoss_29
    rw [ck.n, if_neg (nI_ge hj (by omega)), m_isEnd ck hj, bd_some, if10, m_allLost ck hv' hj, bd_some, if_pos hb, if_pos hb, if_pos hb, nI_cl (by omega), nI_1, htj]
    show _ = l_X12_layLoss_29 F _ (nI (j + 1)) (hsI _ 56 0 j (if bt (nw p s r) j = true then nI (r + 1) else lv p s r j))
    have hw : bt (nw p s r) j = ((!isE p j && !anyN (bdk p s (ls p s r) j) p.m) && !bt (ls p s r) j) := by
      unfold nw
      rw [bt_and, bt_not _ (by omega), fo, bt_ms _ _ (by omega), decide_eq_true hj, Bool.true_and]
      rfl
    rw [hw]
    by_cases e : lv p s r j = -9
    · rw [if_pos e, (lv_9 p s j r hr).mp e]
      cases isE p j
      · rw [if_neg (by decide)]
        cases anyN (bdk p s (ls p s r) j) p.m
        · rw [if_neg (show ¬ false = true by decide), if_neg i10, if_pos hb, if_pos (by decide)]
        · rw [if_pos (show true = true from rfl), if_pos rfl, if_neg (by decide)]
      · rw [if_pos rfl, if_neg (by simp)]
    · rw [if_neg e]
      have : bt (ls p s r) j = true := by
        cases f : bt (ls p s r) j
        · exact absurd ((lv_9 p s j r hr).mpr f) e
        · rfl
      rw [this, Bool.not_true, Bool.and_false, if_neg (by decide)]) (by
    intro F
    show b_X12_layLoss_29 (l_X12_layLoss_29 F) _ (nI p.n) _ = _
    unfold b_X12_layLoss_29
    rw [hfl_k (a := 34) (by decide), c.n, if_pos (Int32.le_refl _)]) (by omega)
  simp only [nI_0, hfl_0] at this
  exact this
theorem m_layLoss {h : AH} {p : PD} {s : SD} (c : MC h p s) : ∃ h2, f_X12_layLoss h = some ((), h2) ∧ SM h h2 ∧ ∀ x, x < p.n → h2.1 55 0 x = lv p s p.n x := by
  have hn := c.1.n10
  unfold f_X12_layLoss
  rw [m_los2 c, bd_some]
  unfold c_X12_layLoss_19
  have := lpi (fun F (q : Int32 × AH) => l_X12_layLoss_21 F q.1 q.2) p.n
    (fun j q => q.1 = nI (j + 1) ∧ SM h q.2 ∧ ∀ x, x < p.n → q.2.1 56 0 x = lv p s j x)
    (fun o => ∃ h2, o = some ((), h2) ∧ SM h h2 ∧ ∀ x, x < p.n → h2.1 56 0 x = lv p s p.n x) (by
    rintro F j ⟨r, k⟩ hj ⟨q1, q2, q3⟩
    simp only at q1 q2 q3
    subst q1
    right
    have ck := c.fr q2.k
    show ∃ t2 : Int32 × AH, _ ∧ b_X12_layLoss_21 (l_X12_layLoss_21 F) _ k = l_X12_layLoss_21 F t2.1 t2.2
    unfold b_X12_layLoss_21
    have s1 : SM h (hfl k 55 0 0 p.n (k.1 56 0)) := q2.fl (by omega)
    have c1 := c.fr s1.k
    rw [ck.n, if_neg (fun z => by rw [nI_ltI (by omega) (by omega)] at z; omega), m_takeT ck, bd_some, m_los29 (r := j) c1 (by omega) (fun x hx => by rw [hfl_1, if_pos (by omega)]; exact q3 x hx) (fun x hx => by rw [hfl_k (a := 56) (by decide)]; exact q3 x hx), bd_some]
    refine ⟨(nI (j + 1 + 1), hfl (hfl k 55 0 0 p.n (k.1 56 0)) 56 0 0 p.n (lv p s (j + 1))), ⟨rfl, s1.fl (by omega), fun x hx => ?_⟩, ?_⟩
    · show (hfl (hfl k 55 0 0 p.n (k.1 56 0)) 56 0 0 p.n (lv p s (j + 1))).1 56 0 x = _
      rw [hfl_1, if_pos (by omega)]; rfl
    · unfold c_X12_layLoss_59
      rw [nI_1]) (by
    rintro F ⟨r, k⟩ ⟨q1, q2, q3⟩
    simp only at q1 q2 q3
    subst q1
    have ck := c.fr q2.k
    show ∃ h2, b_X12_layLoss_21 (l_X12_layLoss_21 F) _ k = _ ∧ _
    unfold b_X12_layLoss_21
    rw [ck.n, if_pos ((nI_ltI (by omega) (by omega)).mpr (by omega))]
    exact ⟨k, rfl, q2, q3⟩) (by omega) (1, hfl h 56 0 0 p.n (lv p s 0)) ⟨rfl, SM.rfl.fl (by omega), fun x hx => by
      show (hfl h 56 0 0 p.n (lv p s 0)).1 56 0 x = _
      rw [hfl_1, if_pos (by omega)]; rfl⟩
  obtain ⟨h2, a, b, d⟩ := this
  have a' : l_X12_layLoss_21 FU 1 (hfl h 56 0 0 p.n (lv p s 0)) = some ((), h2) := a
  rw [a', bd_some]
  unfold c_X12_layLoss_61
  rw [m_takeT (c.fr b.k), bd_some]
  refine ⟨_, rfl, b.fl (by omega), fun x hx => ?_⟩
  rw [hfl_1, if_pos (by omega)]
  exact d x hx
theorem m_lostL {h : AH} {p : PD} {s : SD} (c : MC h p s) (hv : ∀ x, x < p.n → h.1 55 0 x = lv p s p.n x) : l_X12_lost_6 FU 0 0 h = some (ls p s p.n, h) := by
  have hn := c.1.n10
  have := lp0 (fun F j => l_X12_lost_6 F (ms (bt (ls p s p.n)) j) (nI j) h) p.n (some (ms (bt (ls p s p.n)) p.n, h)) (by
    intro F j hj
    show b_X12_lost_6 (l_X12_lost_6 F) _ (nI j) h = _
    have hb : inb (nI j) 10 = true := inb_nI (by omega) (by omega)
    unfold b_X12_lost_6
    rw [c.n, if_neg (nI_ge hj (by omega)), if_pos hb, nI_cl (by omega), nI_1, hv j hj]
    by_cases e : lv p s p.n j = -9
    · rw [if_pos e, ms_n (by rw [(lv_9 p s j p.n (by omega)).mp e]; decide)]
    · rw [if_neg e, ms_s]
      cases f : bt (ls p s p.n) j
      · exact absurd ((lv_9 p s j p.n (by omega)).mpr f) e
      · rfl) (by
    intro F
    show b_X12_lost_6 (l_X12_lost_6 F) _ (nI p.n) h = _
    unfold b_X12_lost_6
    rw [c.n, if_pos (Int32.le_refl _)]) (by omega)
  rw [nI_0] at this
  have e : ms (bt (ls p s p.n)) p.n = ls p s p.n := bt_ext (fun i _ => by
    rw [bt_ms _ _ (by omega)]
    by_cases f : i < p.n
    · rw [decide_eq_true f, Bool.true_and]
    · cases g : bt (ls p s p.n) i
      · rw [Bool.and_false]
      · exact absurd (sub_ls c.1 s _ i g) f)
  rw [e] at this
  exact this
theorem e_lost : E0 Rel f_X11_lost f_X12_lost := by
  intro hx hm h
  show OR _ _
  obtain ⟨b, p, s, d⟩ := h
  have h : Rel hx hm := ⟨b, p, s, d⟩
  obtain ⟨hx2, a1, a2, a3⟩ := x_losing d.x
  obtain ⟨hm2, b1, b2, b3⟩ := m_layLoss d.m
  unfold f_X11_lost f_X12_lost
  rw [a1, bd_some, b1, bd_some, m_lostL (d.m.fr b2.k) b3, bd_some]
  exact OR.same (h.sc a2 b2) rfl rfl
theorem x_safe {h : AH} {p : PD} {s : SD} (c : XC h p s) (L : Int32) {x : Nat} (hx : x < p.n) : l_X1_safeReason_5 FU (nI x) L 0 h = some (fsN (bdk p s L x) p.m, h) := by
  have hn := c.1.n10
  have hm := c.1.m14
  have := lpi (fun F (i : Int32) => l_X1_safeReason_5 F (nI x) L i h) p.m (fun j i => i = nI j ∧ ∀ k, k < j → bdk p s L x k = false) (fun o => o = some (fsN (bdk p s L x) p.m, h)) (by
    rintro F j i hj ⟨rfl, hq⟩
    have h10 := c.1.co10 hj
    have e1 : (nI (p.co j) = nI x) ↔ p.co j = x := nI_eq (by omega) (by omega)
    have hb : inb (nI j) 14 = true := inb_nI (by omega) (by omega)
    show b_X1_safeReason_5 (l_X1_safeReason_5 F) (nI x) L (nI j) h = _ ∨ ∃ t2, _ ∧ b_X1_safeReason_5 (l_X1_safeReason_5 F) (nI x) L (nI j) h = l_X1_safeReason_5 F (nI x) L t2 h
    unfold b_X1_safeReason_5
    rw [c.m, if_neg (nI_ge hj (by omega)), if_pos hb, nI_cl (by omega), c.co hj, x_isUsable c hj, bd_some, if10, if_pos hb, c.pa hj, nI_1]
    have go : bdk p s L x j = false → ∀ k, k < j + 1 → bdk p s L x k = false := fun z k hk => by
      by_cases e : k = j
      · rw [e]; exact z
      · exact hq k (by omega)
    by_cases e : p.co j = x
    · rw [if_pos (e1.mpr e)]
      by_cases f : us p s j = true
      · rw [if_pos f]
        by_cases g : p.pa j &&& L = 0
        · left
          rw [if_pos g, fsN_some hj (by unfold bdk; rw [decide_eq_true e, f, decide_eq_true g]; rfl) hq]
        · right
          rw [if_neg g]
          exact ⟨_, ⟨rfl, go (by unfold bdk; rw [decide_eq_false g]; simp)⟩, rfl⟩
      · right
        rw [if_neg f]
        exact ⟨_, ⟨rfl, go (by unfold bdk; simp [f])⟩, rfl⟩
    · right
      rw [if_neg (fun z => e (e1.mp z))]
      exact ⟨_, ⟨rfl, go (by unfold bdk; simp [e])⟩, rfl⟩) (by
    rintro F i ⟨rfl, hq⟩
    show b_X1_safeReason_5 (l_X1_safeReason_5 F) (nI x) L (nI p.m) h = _
    unfold b_X1_safeReason_5
    rw [c.m, if_pos (Int32.le_refl _), fsN_none hq]) (by omega) 0 ⟨rfl, fun k hk => by omega⟩
  exact this
theorem m_safe {h : AH} {p : PD} {s : SD} (c : MC h p s) {L : Int32} (hv : ∀ x, x < p.n → (h.1 55 0 x = -9 ↔ bt L x = false)) {x : Nat} (hx : x < p.n) : l_X12_never_15 FU (nI x) (-9) (nI p.m - 1) h = some (fsN (bdk p s L x) p.m, h) := by
  have hn := c.1.n10
  have hm := c.1.m14
  have := lp0 (fun F i => l_X12_never_15 F (nI x) (fdN (bdk p s L x) p.m i) (if i = p.m then -1 else nI (p.m - 1 - i)) h) p.m (some (fdN (bdk p s L x) p.m p.m, h)) (by
    intro F i hi
    show b_X12_never_15 (l_X12_never_15 F) (nI x) _ _ h = l_X12_never_15 F (nI x) (fdN (bdk p s L x) p.m (i + 1)) (if i + 1 = p.m then -1 else nI (p.m - 1 - (i + 1))) h
    have hl : p.m - 1 - i < p.m := by omega
    have h10 := c.1.co10 hl
    have e1 : (nI (p.co (p.m - 1 - i)) = nI x) ↔ p.co (p.m - 1 - i) = x := nI_eq (by omega) (by omega)
    unfold b_X12_never_15
    rw [if_neg (show ¬ i = p.m by omega), if_neg (nI_pos (by omega)), if_pos (inb_nI (by omega) (by omega)), nI_cl (by omega), c.co hl, m_isUsable c hl, bd_some, if10, m_hasLost c hv hl, bd_some, nI_dn hi, fdN_s]
    unfold bdk
    by_cases e : p.co (p.m - 1 - i) = x
    · rw [if_pos (e1.mpr e), decide_eq_true e]
      cases us p s (p.m - 1 - i)
      · rw [if_neg (by decide), Bool.false_and, Bool.and_false, if_neg (c := false = true) (by decide)]
      · rw [if_pos rfl]
        by_cases f : p.pa (p.m - 1 - i) &&& L = 0
        · rw [if_pos f, if_pos rfl, decide_eq_true f, if_pos (c := (true && (true && true)) = true) rfl]
        · rw [if_neg f, if_neg i10, decide_eq_false f, if_neg (c := (true && (true && false)) = true) (by decide)]
    · rw [if_neg (fun z => e (e1.mp z)), decide_eq_false e, Bool.false_and, if_neg (c := false = true) (by decide)]) (by
    intro F
    show b_X12_never_15 (l_X12_never_15 F) (nI x) _ _ h = _
    unfold b_X12_never_15
    rw [if_pos rfl, if_pos (by decide)]) (by omega)
  rw [fdN_all] at this
  by_cases e : 0 = p.m
  · rw [if_pos e] at this
    rw [← e]
    rw [← e] at this
    exact this
  · rw [if_neg e, Nat.sub_zero, ← nI_sub1 (by omega)] at this
    exact this
theorem e_never : E1 Rel f_X11_never f_X12_never := by
  intro a hx hm h
  show OR _ _
  obtain ⟨b, p, s, d⟩ := h
  have h : Rel hx hm := ⟨b, p, s, d⟩
  have hn := d.1.n10
  unfold f_X11_never f_X12_never
  rw [x_isClaim d.x, m_isClaim d.m, bd_some, bd_some, if10, if10]
  by_cases hb : inb a p.n = true
  rotate_left
  · rw [if_neg hb, if_neg hb]; exact OR.same h rfl rfl
  obtain ⟨x, hxn, rfl⟩ := inb_ex hb
  obtain ⟨hx2, a1, a2, a3⟩ := x_losing d.x
  obtain ⟨hm2, b1, b2, b3⟩ := m_layLoss d.m
  have cm := d.m.fr b2.k
  unfold f_X1_safeReason
  rw [if_pos hb, if_pos hb, a1, bd_some, b1, bd_some, x_safe (d.x.fr a2.k) _ hxn, bd_some, cm.m, m_safe cm (L := ls p s p.n) (fun y hy => by rw [b3 y hy]; exact lv_9 p s y p.n (by omega)) hxn, bd_some]
  exact OR.same (h.sc a2 b2) rfl rfl
theorem e_game : E1 Rel f_X11_game f_X12_game := by
  intro a hx hm h
  show OR _ _
  obtain ⟨b, p, s, d⟩ := h
  have h : Rel hx hm := ⟨b, p, s, d⟩
  have hn := d.1.n10
  unfold f_X11_game f_X12_game
  rw [x_isClaim d.x, m_isClaim d.m, bd_some, bd_some, if10, if10]
  by_cases hb : inb a p.n = true
  rotate_left
  · rw [if_neg hb, if_neg hb]; exact OR.same h rfl rfl
  obtain ⟨x, hxn, rfl⟩ := inb_ex hb
  obtain ⟨hx2, a1, a2, a3⟩ := x_losing d.x
  obtain ⟨hm2, b1, b2, b3⟩ := m_layLoss d.m
  have hb2 : inb (nI x) 10 = true := inb_nI (by omega) (by omega)
  unfold f_X1_answersToLoss
  rw [if_pos hb, if_pos hb, a1, bd_some, b1, bd_some, if_pos hb2, if_pos hb2, bd_some, nI_cl (by omega), a3 x hxn, b3 x hxn]
  exact OR.same (h.sc a2 b2) rfl rfl
