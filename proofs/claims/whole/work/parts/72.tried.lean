/-! ===== the reference, over the evening that it tries ===== -/
theorem m_mayAskT {h : AH} {p : PD} {s : SD} (c : MC h p s) {tr : Nat → Nat} {j : Nat} (t : TA h 57 p tr j) (hj : j ≤ 32) {k : Nat} (hk : k < p.m) : f_X12_mayAsk_m_tried (nI k) (nI j) h = some (p.pa k &&& (bq s.lw tr j ^^^ (-1)), h) := by
  have hm := c.1.m14
  have hl := c.2.1.2.2.1
  unfold f_X12_mayAsk_m_tried bq
  rw [if_pos (inb_nI (by omega) (by omega)), nI_cl (by omega), c.pa hk]
  have e1 : (nI s.lw = 1) ↔ s.lw = 1 := nI_eq (b := 1) (by omega) (by omega)
  by_cases e : s.lw = 1
  · have := lp0 (fun F i => l_X12_mayAsk_m_tried_7 F (nI j) (p.pa k &&& (tb tr i ^^^ (-1))) (nI i) h) j (some (p.pa k &&& (tb tr j ^^^ (-1)), h)) (by
      intro F i hi
      show b_X12_mayAsk_m_tried_7 (l_X12_mayAsk_m_tried_7 F) (nI j) _ (nI i) h = _
      unfold b_X12_mayAsk_m_tried_7
      rw [if_neg (nI_ge hi (by omega)), c.lw, if_pos (e1.mpr e), if_pos (inb_nI (by omega) (by omega)), nI_cl (by omega), (t i hi).1, nI_1, ← i_and_not_or]
      rfl) (by
      intro F
      show b_X12_mayAsk_m_tried_7 (l_X12_mayAsk_m_tried_7 F) (nI j) _ (nI j) h = _
      unfold b_X12_mayAsk_m_tried_7
      rw [if_pos (Int32.le_refl _)]) (by omega)
    have e0 : p.pa k &&& (tb tr 0 ^^^ (-1)) = p.pa k := i_and_not0 _
    rw [nI_0, e0] at this
    rw [this, if_pos e]
    rfl
  · rw [if_neg e, i_and_not0]
    show bd (b_X12_mayAsk_m_tried_7 (l_X12_mayAsk_m_tried_7 4999) (nI j) (p.pa k) 0 h) _ = _
    unfold b_X12_mayAsk_m_tried_7
    rw [c.lw, if_neg (fun z => e (e1.mp z))]
    by_cases z : nI j ≤ 0
    · rw [if_pos z]; rfl
    · rw [if_neg z]; rfl
theorem m_mayAnswerT {h : AH} {p : PD} {s : SD} (c : MC h p s) {tr : Nat → Nat} {j : Nat} (t : TA h 57 p tr j) (h0 : 0 < j) (hj : j ≤ 32) : f_X12_mayAnswer_m_tried (nI j) h = some (opR p s (tr (j - 1)) (bq s.lw tr j), h) := by
  have hm := c.1.m14
  have hn := c.1.n10
  have hx := (t (j - 1) (by omega)).2
  unfold f_X12_mayAnswer_m_tried
  rw [nI_sub1 h0, if_pos (inb_nI (by omega) (by omega)), nI_cl (by omega), (t (j - 1) (by omega)).1]
  by_cases o : isO p s (tr (j - 1)) = true
  · rw [opR_over c.1 o]
    show bd (b_X12_mayAnswer_m_tried_10 (l_X12_mayAnswer_m_tried_10 4999) (nI j) (nI (tr (j - 1))) 0 0 h) _ = _
    unfold b_X12_mayAnswer_m_tried_10
    rw [m_isOver c hx, bd_some, if10, if_pos o]
    split <;> rfl
  · have := lp0 (fun F i => l_X12_mayAnswer_m_tried_10 F (nI j) (nI (tr (j - 1))) (ms (fun k => decide (p.co k = tr (j - 1)) && (us p s k && !decide (p.pa k &&& (bq s.lw tr j ^^^ (-1)) = 0))) i) (nI i) h) p.m (some (opR p s (tr (j - 1)) (bq s.lw tr j), h)) (by
      intro F i hi
      show b_X12_mayAnswer_m_tried_10 (l_X12_mayAnswer_m_tried_10 F) (nI j) (nI (tr (j - 1))) _ (nI i) h = _
      unfold b_X12_mayAnswer_m_tried_10
      rw [c.m, if_neg (nI_ge hi (by omega)), m_isOver c hx, bd_some, if10, if_neg o, m_usableFor c (by omega), bd_some, m_has _ (by omega), bd_some, if10, m_mayAskT c t hj hi, bd_some, nI_1, bt_UF c.1, decide_eq_true hi, Bool.true_and]
      by_cases e : (decide (p.co i = tr (j - 1)) && us p s i) = true
      · rw [if_pos e]
        rw [Bool.and_eq_true, decide_eq_true_eq] at e
        by_cases g : p.pa i &&& (bq s.lw tr j ^^^ (-1)) = 0
        · rw [if_pos g, ms_n (by simp only [decide_eq_true g, Bool.not_true, Bool.and_false]; exact Bool.false_ne_true)]
        · rw [if_neg g, ms_s (by simp only [decide_eq_true e.1, e.2, decide_eq_false g]; rfl)]
      · rw [if_neg e, ms_n]
        intro z
        apply e
        rw [Bool.and_eq_true] at z ⊢
        rw [Bool.and_eq_true] at z
        exact ⟨z.1, z.2.1⟩) (by
      intro F
      show b_X12_mayAnswer_m_tried_10 (l_X12_mayAnswer_m_tried_10 F) (nI j) (nI (tr (j - 1))) _ (nI p.m) h = _
      unfold b_X12_mayAnswer_m_tried_10
      rw [c.m, if_pos (Int32.le_refl _)]
      rfl) (by omega)
    rw [nI_0] at this
    show bd (l_X12_mayAnswer_m_tried_10 FU (nI j) (nI (tr (j - 1))) (ms (fun k => decide (p.co k = tr (j - 1)) && (us p s k && !decide (p.pa k &&& (bq s.lw tr j ^^^ (-1)) = 0))) 0) 0 h) _ = _
    rw [this]
    rfl
theorem m_canAnswerT {h : AH} {p : PD} {s : SD} (c : MC h p s) {tr : Nat → Nat} {j : Nat} (t : TA h 57 p tr j) (h0 : 0 < j) (hj : j ≤ 32) {k y : Nat} (hk : k < p.m) (hy : y < 32) : f_X12_canAnswer_m_tried (nI j) (nI k) (nI y) h = some (if cgo p s (tr (j - 1)) k y (bq s.lw tr j) = true then 1 else 0, h) := by
  have hm := c.1.m14
  unfold f_X12_canAnswer_m_tried cgo
  rw [m_mayAnswerT c t h0 hj, bd_some, m_has _ (by omega), bd_some, if10, m_mayAskT c t hj hk, bd_some, m_has _ hy, bd_some, if10]
  cases bt (opR p s (tr (j - 1)) (bq s.lw tr j)) k
  · rfl
  · cases bt (p.pa k &&& (bq s.lw tr j ^^^ (-1))) y <;> rfl
theorem m_endOfT {h : AH} {p : PD} {s : SD} (c : MC h p s) {tr : Nat → Nat} {j : Nat} (t : TA h 57 p tr j) (h0 : 0 < j) (hj : j ≤ 32) : f_X12_endOf_m_tried (nI j) h = some (wo p s (tr (j - 1)) (bq s.lw tr j), h) := by
  have hn := c.1.n10
  have hx := (t (j - 1) (by omega)).2
  have hk := c.1.ki5 hx
  unfold f_X12_endOf_m_tried wo
  rw [nI_sub1 h0, if_pos (inb_nI (by omega) (by omega)), nI_cl (by omega), (t (j - 1) (by omega)).1, if_pos (inb_nI (by omega) (by omega)), nI_cl (by omega), c.ki hx, m_isAtLoss c hx, bd_some, if10, m_mayAnswerT c t h0 hj, bd_some]
  have e1 : (nI (p.ki (tr (j - 1))) = 1) ↔ p.ki (tr (j - 1)) = 1 := nI_eq (b := 1) (by omega) (by omega)
  by_cases e : p.ki (tr (j - 1)) = 1
  · rw [if_pos (e1.mpr e), if_neg, if_pos]
    · simp [isE, e]
    · simp [atL, e]
  · rw [if_neg (fun z => e (e1.mp z))]
    by_cases a : atL p s (tr (j - 1)) = true
    · rw [if_pos a, if_pos a]
    · rw [if_neg a, if_neg a, if_some]
      rw [if_neg (c := isE p (tr (j - 1)) = true)]
      intro z
      apply a
      simp only [isE, e, decide_false, Bool.false_or, decide_eq_true_eq] at z
      simp [atL, z]
