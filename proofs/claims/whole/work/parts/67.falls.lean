theorem m_unk {h : AH} {p : PD} {s : SD} (c : MC h p s) (x1 : Int32) : l_X12_words_17 FU x1 0 0 h = some (KB p 4 &&& (s.kn ^^^ (-1)), h) := by
  have hn := c.1.n10
  have := lp0 (fun F j => l_X12_words_17 F x1 (ms (fun i => decide (p.ki i = 4) && !bt s.kn i) j) (nI j) h) p.n (some (ms (fun i => decide (p.ki i = 4) && !bt s.kn i) p.n, h)) (by
    intro F j hj
    show b_X12_words_17 (l_X12_words_17 F) x1 _ (nI j) h = _
    have hk := c.1.ki5 hj
    have e1 : (nI (p.ki j) = 4) ↔ p.ki j = 4 := nI_eq (b := 4) (by omega) (by omega)
    unfold b_X12_words_17
    rw [c.n, if_neg (nI_ge hj (by omega)), if_pos (inb_nI (by omega) (by omega)), nI_cl (by omega), c.ki hj, c.kn, m_has _ (by omega), bd_some, if10, nI_1]
    by_cases e : p.ki j = 4
    · rw [if_pos (e1.mpr e)]
      by_cases f : bt s.kn j = true
      · rw [if_pos f, ms_n (by rw [f]; simp)]
      · rw [if_neg f, ms_s (by rw [decide_eq_true e]; simpa using f)]
    · rw [if_neg (fun z => e (e1.mp z)), ms_n (by simp [e])]) (by
    intro F
    show b_X12_words_17 (l_X12_words_17 F) x1 _ (nI p.n) h = _
    unfold b_X12_words_17
    rw [c.n, if_pos (Int32.le_refl _)]) (by omega)
  rw [nI_0] at this
  have e : ms (fun i => decide (p.ki i = 4) && !bt s.kn i) p.n = KB p 4 &&& (s.kn ^^^ (-1)) := bt_ext (fun i hi => by
    rw [bt_ms _ _ (by omega), bt_and, bt_not _ hi, bt_KB c.1, Bool.and_assoc])
  rw [e] at this
  exact this
theorem and_ins {a b : Nat} : a &&& b &&& b = a &&& b := by rw [Nat.and_assoc, Nat.and_self]
theorem e_words : E1 Rel f_X11_words f_X12_words := by
  intro a hx hm h
  show OR _ _
  obtain ⟨b, p, s, d⟩ := h
  have h : Rel hx hm := ⟨b, p, s, d⟩
  have hn := d.1.n10
  unfold f_X11_words f_X12_words
  rw [x_isClaim d.x, m_isClaim d.m, bd_some, bd_some, if10, if10]
  by_cases hb : inb a p.n = true
  rotate_left
  · rw [if_neg hb, if_neg hb]; exact OR.same h rfl rfl
  obtain ⟨x, hxn, rfl⟩ := inb_ex hb
  rw [if_pos hb, if_pos hb, x_standing d.x, m_standNow d.m, bd_some, bd_some, x_has _ (by omega), m_has _ (by omega), bd_some, bd_some, if10, if10]
  by_cases hs : bt (SN p s) x = true
  rotate_left
  · rw [if_neg hs, if_neg hs]; exact OR.same h rfl rfl
  rw [if_pos hs, if_pos hs]
  unfold f_X3_wordsFor
  rw [x_bits4 d.x, bd_some, x_reach d.x hxn, bd_some, x_standing d.x, bd_some, d.x.kn, m_unk d.m, bd_some]
  unfold c_X12_words_42
  have hU : sub (KB p 4 &&& (s.kn ^^^ (-1))) p.n := sub_and (sub_KB d.1 4)
  generalize KB p 4 &&& (s.kn ^^^ (-1)) = U at hU
  obtain ⟨m, hm', eU⟩ := sub_10 hn hU
  have hW : sub ((U &&& RC p s x) &&& SN p s) p.n := sub_and (sub_and hU)
  obtain ⟨w, hw, eW⟩ := sub_10 hn hW
  have bW : ∀ i, bt (nI w) i = (bt U i && bt (RC p s x) i && bt (SN p s) i) := fun i => by rw [← eW, bt_and, bt_and]
  rw [eW, x_wordsL d.x hxn hw U, bd_some, eU, m_wordsL d.m hxn hm', bd_some]
  have wm : w &&& m = w := by
    rw [ins_iff (by omega)]
    intro i hi
    rw [bW] at hi
    rw [← eU]
    simp only [Bool.and_eq_true] at hi
    exact hi.1.1
  have hg : ∀ z, z &&& m = z → bt (SW p s (U &&& (nI z ^^^ (-1)))) x = true → bt (SW p s (U &&& (nI (z &&& w) ^^^ (-1)))) x = true := by
    intro z hz h1
    refine SW_rel d.1 hxn (fun i r1 r2 r3 => ?_) h1
    rw [bt_and, Bool.and_eq_true] at r3 ⊢
    refine ⟨r3.1, ?_⟩
    have r4 := bt_not'.mp r3.2
    rw [bt_not']
    refine ⟨r4.1, ?_⟩
    rw [← nI_and, bt_and, bW, r3.1, r1, r2] at r4
    simpa using r4.2
  have gw : wC p s U x w w = true := by
    unfold wC
    rw [Bool.and_eq_true, decide_eq_true_eq, Nat.and_self]
    refine ⟨rfl, SW_rel d.1 hxn (H := 0) (fun i r1 r2 r3 => ?_) (by rw [SW_0 d.1]; exact hs)⟩
    rw [bt_and, Bool.and_eq_true, bt_not', bW, r1, r2] at r3
    rw [r3.1] at r3
    exact absurd r3.2.2 (by decide)
  have hx1 := tU_g (wC p s U x w) uN (w + 1)
  have hy1 := tU_in (C := wC p s U x w) (D := fun t => bt (SW p s (U &&& (nI t ^^^ (-1)))) x) (by omega) wm (fun t => rfl) hg (wC p s U x m) (fun t => rfl) _ hx1
  have e := (tU_g (wC p s U x m) uN (m + 1)).uniq hy1
  rw [← eU, e]
  cases q : tU (wC p s U x w) uN (w + 1) with
  | none =>
    rw [q] at hx1
    rw [hx1 w (Nat.zero_le _) (by omega)] at gw
    contradiction
  | some y =>
    rw [q] at hx1
    have hy := hx1.2.1
    unfold c_X12_words_82
    show OR (bd (f_J6_bitCount_0f7a4 ((hsI hx 0 0 14 (nI y)).1 0 0 14) (hsI hx 0 0 14 (nI y))) _) (bd (f_X12_bits (nI y) hm) _)
    rw [m_bitsN (by omega), bd_some, m_tells, bd_some, hsI_1, if_pos ⟨rfl, rfl, rfl⟩, x_bc, bd_some, bcN (by omega)]
    exact OR.told h _ rfl rfl
