/-! ===== digest ===== -/
def mf (v : Nat → Int64) (d : Int64) : Nat → Int64
  | 0 => d
  | j + 1 => (31 : Int64) * mf v d j + v j
theorem mf_c {v w : Nat → Int64} (d : Int64) : ∀ n, (∀ j, j < n → v j = w j) → mf v d n = mf w d n
  | 0, _ => rfl
  | n + 1, h => by
    show (31 : Int64) * mf v d n + v n = (31 : Int64) * mf w d n + w n
    rw [mf_c d n (fun j hj => h j (by omega)), h n (by omega)]
/-- a fold of folds -/
def mg (g : Int64 → Nat → Int64) (d : Int64) : Nat → Int64
  | 0 => d
  | j + 1 => g (mg g d j) j
def hH (h : AH) (d : Int64) : AH := hsL h 34 0 39 d
theorem m_mix (h : AH) (d v : Int64) : f_X12_mix v (hH h d) = some ((), hH h ((31 : Int64) * d + v)) := by
  unfold f_X12_mix hH
  rw [hsL_2, if_pos ⟨rfl, rfl, rfl⟩, hsL_hsL]
theorem Bk.hash {hx hm : AH} (b : Bk hx hm) (d : Int64) : Bk hx (hH hm d) := by
  obtain ⟨⟨a1, a2, a3, a4, a5⟩, a6, a7⟩ := b
  refine ⟨⟨a1, a2, ?_, ?_, a5⟩, a6, a7⟩
  · show _ = (hsL hm 34 0 39 d).2 34 0 3
    rw [hsL_2, if_neg (by omega)]; exact a3
  · show _ = (hsL hm 34 0 39 d).2 34 0 4
    rw [hsL_2, if_neg (by omega)]; exact a4
theorem x_fr {h : AH} {p : PD} {s : SD} (c : XC h p s) {k w : Nat} (hk : k < p.m) (hw : w < 3) : f_X11_factOfReason (nI k) (nI w) h = some (if w = 0 then nI (p.co k) else if w = 1 then p.pa k else nI (s.su k), h) := by
  have hm := c.1.m14
  have hb14 : inb (nI k) 14 = true := inb_nI (by omega) (by omega)
  simp only [f_X11_factOfReason, if_pos hb14, nI_cl (show k < 100000 by omega), c.co hk, c.pa hk, c.su hk]
  match w, hw with
  | 0, _ => rfl
  | 1, _ => rfl
  | 2, _ => rfl
theorem m_fr {h : AH} {p : PD} {s : SD} (c : MC h p s) {k w : Nat} (hk : k < p.m) (hw : w < 3) : f_X12_reasonTells (nI k) (nI w) h = some (if w = 0 then nI (p.co k) else if w = 1 then p.pa k else nI (s.su k), h) := by
  have hm := c.1.m14
  have hb14 : inb (nI k) 14 = true := inb_nI (by omega) (by omega)
  simp only [f_X12_reasonTells, if_pos hb14, nI_cl (show k < 100000 by omega), c.co hk, c.pa hk, c.su hk]
  match w, hw with
  | 0, _ => rfl
  | 1, _ => rfl
  | 2, _ => rfl
/-! counts -/
theorem x_dg4 {hx hm : AH} {p : PD} {s : SD} (b : Bk hx hm) (c : RD hx hm p s) (d : Int64) : l_X11_digest_4 FU d 0 hx = some (mf (fun w => (hwm hm p s w).toInt64) d 9, hx) := by
  have := lp0 (fun F j => l_X11_digest_4 F (mf (fun w => (hwm hm p s w).toInt64) d j) (nI j) hx) 9 (some (mf (fun w => (hwm hm p s w).toInt64) d 9, hx)) (by
    intro F j hj
    show b_X11_digest_4 (l_X11_digest_4 F) _ (nI j) hx = l_X11_digest_4 F ((31 : Int64) * mf (fun w => (hwm hm p s w).toInt64) d j + (hwm hm p s j).toInt64) (nI (j + 1)) hx
    unfold b_X11_digest_4
    rw [if_neg (show ¬ (9 : Int32) ≤ nI j from nI_ge (b := 9) hj (by omega)), x_howMany b c hj, bd_some, nI_1]) (by
    intro F
    show b_X11_digest_4 (l_X11_digest_4 F) _ (nI 9) hx = _
    unfold b_X11_digest_4
    rw [if_pos (show (9 : Int32) ≤ nI 9 by decide)]) (by omega)
  exact this
theorem m_dg5 {hx hm : AH} {p : PD} {s : SD} (b : Bk hx hm) (c : RD hx hm p s) (d : Int64) : l_X12_digest_5 FU 0 (hH hm d) = some ((), hH hm (mf (fun w => (hwm hm p s w).toInt64) d 9)) := by
  have := lp0 (fun F j => l_X12_digest_5 F (nI j) (hH hm (mf (fun w => (hwm hm p s w).toInt64) d j))) 9 (some ((), hH hm (mf (fun w => (hwm hm p s w).toInt64) d 9))) (by
    intro F j hj
    show b_X12_digest_5 (l_X12_digest_5 F) (nI j) (hH hm (mf (fun w => (hwm hm p s w).toInt64) d j)) = l_X12_digest_5 F (nI (j + 1)) (hH hm ((31 : Int64) * mf (fun w => (hwm hm p s w).toInt64) d j + (hwm hm p s j).toInt64))
    have hc := m_counted (b.hash (mf (fun w => (hwm hm p s w).toInt64) d j)) (p := p) (s := s) c.m hj
    unfold b_X12_digest_5
    rw [if_neg (show ¬ (9 : Int32) ≤ nI j from nI_ge (b := 9) hj (by omega)), hc, bd_some, m_mix, bd_some, nI_1]
    rfl) (by
    intro F
    show b_X12_digest_5 (l_X12_digest_5 F) (nI 9) _ = _
    unfold b_X12_digest_5
    rw [if_pos (show (9 : Int32) ≤ nI 9 by decide)]) (by omega)
  exact this
/-! claims and reasons -/
noncomputable def gC (p : PD) (s : SD) (d : Int64) (x : Nat) : Int64 := mf (fun w => (cT p s x w).toInt64) d 5
def gR (p : PD) (s : SD) (d : Int64) (k : Nat) : Int64 := mf (fun w => (if w = 0 then nI (p.co k) else if w = 1 then p.pa k else nI (s.su k)).toInt64) d 3
theorem x_wf11 {h : AH} {p : PD} {s : SD} (c : XC h p s) (d : Int64) {x : Nat} (hx : x < p.n) : l_X11_withFacts_11 FU d (nI x) 0 h = some (gC p s d x, h) := by
  have := lp0 (fun F j => l_X11_withFacts_11 F (mf (fun w => (cT p s x w).toInt64) d j) (nI x) (nI j) h) 5 (some (gC p s d x, h)) (by
    intro F j hj
    show b_X11_withFacts_11 (l_X11_withFacts_11 F) _ (nI x) (nI j) h = l_X11_withFacts_11 F ((31 : Int64) * mf (fun w => (cT p s x w).toInt64) d j + (cT p s x j).toInt64) (nI x) (nI (j + 1)) h
    unfold b_X11_withFacts_11
    rw [if_neg (show ¬ (5 : Int32) ≤ nI j from nI_ge (b := 5) hj (by omega)), x_fact c hx hj, bd_some, nI_1]) (by
    intro F
    show b_X11_withFacts_11 (l_X11_withFacts_11 F) _ (nI x) (nI 5) h = _
    unfold b_X11_withFacts_11
    rw [if_pos (show (5 : Int32) ≤ nI 5 by decide)]
    rfl) (by omega)
  exact this
theorem m_mr13 {h : AH} {p : PD} {s : SD} (c : MC h p s) (d : Int64) {x : Nat} (hx : x < p.n) : l_X12_mixRoom_13 FU (nI x) 0 (hH h d) = some ((), hH h (gC p s d x)) := by
  have := lp0 (fun F j => l_X12_mixRoom_13 F (nI x) (nI j) (hH h (mf (fun w => (cT p s x w).toInt64) d j))) 5 (some ((), hH h (gC p s d x))) (by
    intro F j hj
    show b_X12_mixRoom_13 (l_X12_mixRoom_13 F) (nI x) (nI j) (hH h (mf (fun w => (cT p s x w).toInt64) d j)) = l_X12_mixRoom_13 F (nI x) (nI (j + 1)) (hH h ((31 : Int64) * mf (fun w => (cT p s x w).toInt64) d j + (cT p s x j).toInt64))
    unfold b_X12_mixRoom_13
    rw [if_neg (show ¬ (5 : Int32) ≤ nI j from nI_ge (b := 5) hj (by omega)), m_fact (h := hH h _) (p := p) (s := s) c hx hj, bd_some, m_mix, bd_some, nI_1]) (by
    intro F
    show b_X12_mixRoom_13 (l_X12_mixRoom_13 F) (nI x) (nI 5) _ = _
    unfold b_X12_mixRoom_13
    rw [if_pos (show (5 : Int32) ≤ nI 5 by decide)]
    rfl) (by omega)
  exact this
theorem x_wf4 {h : AH} {p : PD} {s : SD} (c : XC h p s) (d : Int64) : l_X11_withFacts_4 FU d 0 h = some (mg (gC p s) d p.n, h) := by
  have hn := c.1.n10
  have := lp0 (fun F j => l_X11_withFacts_4 F (mg (gC p s) d j) (nI j) h) p.n (some (mg (gC p s) d p.n, h)) (by
    intro F j hj
    show b_X11_withFacts_4 (l_X11_withFacts_4 F) _ (nI j) h = l_X11_withFacts_4 F (gC p s (mg (gC p s) d j) j) (nI (j + 1)) h
    unfold b_X11_withFacts_4 c_X11_withFacts_26
    rw [c.n, if_neg (nI_ge hj (by omega)), x_wf11 c _ hj, bd_some, nI_1]) (by
    intro F
    show b_X11_withFacts_4 (l_X11_withFacts_4 F) _ (nI p.n) h = _
    unfold b_X11_withFacts_4
    rw [c.n, if_pos (Int32.le_refl _)]) (by omega)
  exact this
theorem m_mr7 {h : AH} {p : PD} {s : SD} (c : MC h p s) (d : Int64) : l_X12_mixRoom_7 FU 0 (hH h d) = some ((), hH h (mg (gC p s) d p.n)) := by
  have hn := c.1.n10
  have := lp0 (fun F j => l_X12_mixRoom_7 F (nI j) (hH h (mg (gC p s) d j))) p.n (some ((), hH h (mg (gC p s) d p.n))) (by
    intro F j hj
    show b_X12_mixRoom_7 (l_X12_mixRoom_7 F) (nI j) (hH h (mg (gC p s) d j)) = l_X12_mixRoom_7 F (nI (j + 1)) (hH h (gC p s (mg (gC p s) d j) j))
    have e : (hH h (mg (gC p s) d j)).1 34 0 10 = nI p.n := c.n
    unfold b_X12_mixRoom_7 c_X12_mixRoom_25
    rw [e, if_neg (nI_ge hj (by omega)), m_mr13 c _ hj, bd_some, nI_1]) (by
    intro F
    show b_X12_mixRoom_7 (l_X12_mixRoom_7 F) (nI p.n) (hH h (mg (gC p s) d p.n)) = _
    have e : (hH h (mg (gC p s) d p.n)).1 34 0 10 = nI p.n := c.n
    unfold b_X12_mixRoom_7
    rw [e, if_pos (Int32.le_refl _)]) (by omega)
  exact this
theorem x_wf37 {h : AH} {p : PD} {s : SD} (c : XC h p s) (d : Int64) {k : Nat} (hk : k < p.m) : l_X11_withFacts_37 FU d (nI k) 0 h = some (gR p s d k, h) := by
  have := lp0 (fun F j => l_X11_withFacts_37 F (mf (fun w => (if w = 0 then nI (p.co k) else if w = 1 then p.pa k else nI (s.su k)).toInt64) d j) (nI k) (nI j) h) 3 (some (gR p s d k, h)) (by
    intro F j hj
    show b_X11_withFacts_37 (l_X11_withFacts_37 F) _ (nI k) (nI j) h = l_X11_withFacts_37 F ((31 : Int64) * mf (fun w => (if w = 0 then nI (p.co k) else if w = 1 then p.pa k else nI (s.su k)).toInt64) d j + (if j = 0 then nI (p.co k) else if j = 1 then p.pa k else nI (s.su k)).toInt64) (nI k) (nI (j + 1)) h
    unfold b_X11_withFacts_37
    rw [if_neg (show ¬ (3 : Int32) ≤ nI j from nI_ge (b := 3) hj (by omega)), x_fr c hk hj, bd_some, nI_1]) (by
    intro F
    show b_X11_withFacts_37 (l_X11_withFacts_37 F) _ (nI k) (nI 3) h = _
    unfold b_X11_withFacts_37
    rw [if_pos (show (3 : Int32) ≤ nI 3 by decide)]
    rfl) (by omega)
  exact this
theorem m_mr35 {h : AH} {p : PD} {s : SD} (c : MC h p s) (d : Int64) {k : Nat} (hk : k < p.m) : l_X12_mixRoom_35 FU (nI k) 0 (hH h d) = some ((), hH h (gR p s d k)) := by
  have := lp0 (fun F j => l_X12_mixRoom_35 F (nI k) (nI j) (hH h (mf (fun w => (if w = 0 then nI (p.co k) else if w = 1 then p.pa k else nI (s.su k)).toInt64) d j))) 3 (some ((), hH h (gR p s d k))) (by
    intro F j hj
    show b_X12_mixRoom_35 (l_X12_mixRoom_35 F) (nI k) (nI j) (hH h (mf (fun w => (if w = 0 then nI (p.co k) else if w = 1 then p.pa k else nI (s.su k)).toInt64) d j)) = l_X12_mixRoom_35 F (nI k) (nI (j + 1)) (hH h ((31 : Int64) * mf (fun w => (if w = 0 then nI (p.co k) else if w = 1 then p.pa k else nI (s.su k)).toInt64) d j + (if j = 0 then nI (p.co k) else if j = 1 then p.pa k else nI (s.su k)).toInt64))
    unfold b_X12_mixRoom_35
    rw [if_neg (show ¬ (3 : Int32) ≤ nI j from nI_ge (b := 3) hj (by omega)), m_fr (h := hH h _) (p := p) (s := s) c hk hj, bd_some, m_mix, bd_some, nI_1]) (by
    intro F
    show b_X12_mixRoom_35 (l_X12_mixRoom_35 F) (nI k) (nI 3) _ = _
    unfold b_X12_mixRoom_35
    rw [if_pos (show (3 : Int32) ≤ nI 3 by decide)]
    rfl) (by omega)
  exact this
theorem x_wf30 {h : AH} {p : PD} {s : SD} (c : XC h p s) (d : Int64) : l_X11_withFacts_30 FU d 0 h = some (mg (gR p s) d p.m, h) := by
  have hn := c.1.m14
  have := lp0 (fun F j => l_X11_withFacts_30 F (mg (gR p s) d j) (nI j) h) p.m (some (mg (gR p s) d p.m, h)) (by
    intro F j hj
    show b_X11_withFacts_30 (l_X11_withFacts_30 F) _ (nI j) h = l_X11_withFacts_30 F (gR p s (mg (gR p s) d j) j) (nI (j + 1)) h
    unfold b_X11_withFacts_30 c_X11_withFacts_52
    rw [c.m, if_neg (nI_ge hj (by omega)), x_wf37 c _ hj, bd_some, nI_1]) (by
    intro F
    show b_X11_withFacts_30 (l_X11_withFacts_30 F) _ (nI p.m) h = _
    unfold b_X11_withFacts_30
    rw [c.m, if_pos (Int32.le_refl _)]) (by omega)
  exact this
theorem m_mr29 {h : AH} {p : PD} {s : SD} (c : MC h p s) (d : Int64) : l_X12_mixRoom_29 FU 0 (hH h d) = some ((), hH h (mg (gR p s) d p.m)) := by
  have hn := c.1.m14
  have := lp0 (fun F j => l_X12_mixRoom_29 F (nI j) (hH h (mg (gR p s) d j))) p.m (some ((), hH h (mg (gR p s) d p.m))) (by
    intro F j hj
    show b_X12_mixRoom_29 (l_X12_mixRoom_29 F) (nI j) (hH h (mg (gR p s) d j)) = l_X12_mixRoom_29 F (nI (j + 1)) (hH h (gR p s (mg (gR p s) d j) j))
    have e : (hH h (mg (gR p s) d j)).1 34 0 11 = nI p.m := c.m
    unfold b_X12_mixRoom_29 c_X12_mixRoom_47
    rw [e, if_neg (nI_ge hj (by omega)), m_mr35 c _ hj, bd_some, nI_1]) (by
    intro F
    show b_X12_mixRoom_29 (l_X12_mixRoom_29 F) (nI p.m) (hH h (mg (gR p s) d p.m)) = _
    have e : (hH h (mg (gR p s) d p.m)).1 34 0 11 = nI p.m := c.m
    unfold b_X12_mixRoom_29
    rw [e, if_pos (Int32.le_refl _)]) (by omega)
  exact this
/-! the evening -/
theorem x_wev {h : AH} {p : PD} {s : SD} (c : XC h p s) (d : Int64) : f_X11_withEvening d h = some (if s.ts = 0 then (31 : Int64) * d + (-1) else mf (fun i => (nI (s.tr i)).toInt64) d s.ts, h) := by
  have h40 := c.2.1.t40
  unfold f_X11_withEvening
  rw [x_hasEv c, bd_some, if10]
  by_cases e : s.ts = 0
  · rw [if_neg (fun z => z e), if_pos e]
  · rw [if_pos e, if_neg e]
    have := lp0 (fun F j => l_X11_withEvening_14 F (mf (fun i => (nI (s.tr i)).toInt64) d j) (nI j) h) s.ts (some (mf (fun i => (nI (s.tr i)).toInt64) d s.ts, h)) (by
      intro F j hj
      show b_X11_withEvening_14 (l_X11_withEvening_14 F) _ (nI j) h = l_X11_withEvening_14 F ((31 : Int64) * mf (fun i => (nI (s.tr i)).toInt64) d j + (nI (s.tr j)).toInt64) (nI (j + 1)) h
      unfold b_X11_withEvening_14
      rw [c.ts, if_neg (nI_ge hj (by omega)), if_pos (inb_nI (by omega) (by omega)), nI_cl (by omega), c.tr hj, nI_1]) (by
      intro F
      show b_X11_withEvening_14 (l_X11_withEvening_14 F) _ (nI s.ts) h = _
      unfold b_X11_withEvening_14
      rw [c.ts, if_pos (Int32.le_refl _)]) (by omega)
    have this' : l_X11_withEvening_14 FU d 0 h = some (mf (fun i => (nI (s.tr i)).toInt64) d s.ts, h) := this
    rw [this']
    rfl
theorem m_mr51 {h : AH} {p : PD} {s : SD} (c : MC h p s) (d : Int64) : l_X12_mixRoom_51 FU 0 (hH h d) = some ((), hH h (mf (fun i => (nI (s.tr i)).toInt64) d s.ts)) := by
  have h40 := c.2.1.t40
  have := lp0 (fun F j => l_X12_mixRoom_51 F (nI j) (hH h (mf (fun i => (nI (s.tr i)).toInt64) d j))) s.ts (some ((), hH h (mf (fun i => (nI (s.tr i)).toInt64) d s.ts))) (by
    intro F j hj
    show b_X12_mixRoom_51 (l_X12_mixRoom_51 F) (nI j) (hH h (mf (fun i => (nI (s.tr i)).toInt64) d j)) = l_X12_mixRoom_51 F (nI (j + 1)) (hH h ((31 : Int64) * mf (fun i => (nI (s.tr i)).toInt64) d j + (nI (s.tr j)).toInt64))
    have e : (hH h (mf (fun i => (nI (s.tr i)).toInt64) d j)).1 34 0 27 = nI s.ts := c.ts
    have e2 : (hH h (mf (fun i => (nI (s.tr i)).toInt64) d j)).1 49 0 j = nI (s.tr j) := c.tr hj
    unfold b_X12_mixRoom_51
    rw [e, if_neg (nI_ge hj (by omega)), if_pos (inb_nI (by omega) (by omega)), nI_cl (by omega), e2, m_mix, bd_some, nI_1]) (by
    intro F
    show b_X12_mixRoom_51 (l_X12_mixRoom_51 F) (nI s.ts) (hH h (mf (fun i => (nI (s.tr i)).toInt64) d s.ts)) = _
    have e : (hH h (mf (fun i => (nI (s.tr i)).toInt64) d s.ts)).1 34 0 27 = nI s.ts := c.ts
    unfold b_X12_mixRoom_51
    rw [e, if_pos (Int32.le_refl _)]) (by omega)
  exact this
/-! images -/
def imV (h : AH) (c : Nat) : Int64 := if h.1 50 0 c = 0 then -1 else (if h.1 51 0 c ≤ 0 then 0 else h.1 51 0 c - 1).toInt64
theorem x_dg37 {hx hm : AH} {p : PD} {s : SD} (c : RD hx hm p s) (d : Int64) : l_X11_digest_37 FU d 0 hx = some (mf (imV hm) d 3, hx) := by
  have := lp0 (fun F j => l_X11_digest_37 F (mf (imV hm) d j) (nI j) hx) 3 (some (mf (imV hm) d 3, hx)) (by
    intro F j hj
    show b_X11_digest_37 (l_X11_digest_37 F) _ (nI j) hx = l_X11_digest_37 F ((31 : Int64) * mf (imV hm) d j + imV hm j) (nI (j + 1)) hx
    unfold b_X11_digest_37 f_X7_answers imV
    rw [if_neg (show ¬ (3 : Int32) ≤ nI j from nI_ge (b := 3) hj (by omega)), if_pos (inb_nI hj (by omega)), if_pos (inb_nI hj (by omega)), nI_cl (by omega), nI_1, if_some, bd_some]
    rcases c.2.2.2.2.2.2 j hj with ⟨z1, z2⟩ | ⟨z1, z2, s2, z3, z4, z5⟩
    · rw [z1, z2, if_pos rfl, if_pos rfl]; rfl
    · rw [z1, z2, if_neg i10, if_neg i10, z4.1, z5.1]) (by
    intro F
    show b_X11_digest_37 (l_X11_digest_37 F) _ (nI 3) hx = _
    unfold b_X11_digest_37
    rw [if_pos (show (3 : Int32) ≤ nI 3 by decide)]) (by omega)
  exact this
theorem m_mr72 {hx hm : AH} {p : PD} {s : SD} (c : RD hx hm p s) (d : Int64) : l_X12_mixRoom_72 FU 0 (hH hm d) = some ((), hH hm (mf (imV hm) d 3)) := by
  have := lp0 (fun F j => l_X12_mixRoom_72 F (nI j) (hH hm (mf (imV hm) d j))) 3 (some ((), hH hm (mf (imV hm) d 3))) (by
    intro F j hj
    show b_X12_mixRoom_72 (l_X12_mixRoom_72 F) (nI j) (hH hm (mf (imV hm) d j)) = l_X12_mixRoom_72 F (nI (j + 1)) (hH hm ((31 : Int64) * mf (imV hm) d j + imV hm j))
    generalize mf (imV hm) d j = q
    have e : (hH hm q).1 50 0 j = hm.1 50 0 j := rfl
    have e2 : (hH hm q).1 51 0 j = hm.1 51 0 j := rfl
    unfold b_X12_mixRoom_72 f_X12_greater imV
    rw [if_neg (show ¬ (3 : Int32) ≤ nI j from nI_ge (b := 3) hj (by omega)), if_pos (inb_nI hj (by omega)), if_pos (inb_nI hj (by omega)), nI_cl (by omega), e, e2, nI_1, if_some, bd_some, m_mix, bd_some, m_mix, bd_some]
    rcases c.2.2.2.2.2.2 j hj with ⟨z1, z2⟩ | ⟨z1, z2, s2, z3, z4, z5⟩
    · rw [z2, if_pos rfl, if_pos rfl]
    · have h40 := z3.t40
      rw [z2, if_neg i10, if_neg i10, z5.1]
      by_cases t0 : s2.ts = 0
      · rw [t0, if_neg (show ¬ (0 : Int32) ≤ nI 0 - 1 by decide), if_pos (show nI 0 ≤ (0 : Int32) by decide)]
      · rw [nI_sub1 (by omega), if_pos (show (0 : Int32) ≤ nI (s2.ts - 1) from (nI_leI (a := 0) (by omega) (by omega)).mpr (by omega)), if_neg (fun z => t0 ((nI_le0 (by omega)).mp z))]) (by
    intro F
    show b_X12_mixRoom_72 (l_X12_mixRoom_72 F) (nI 3) _ = _
    unfold b_X12_mixRoom_72
    rw [if_pos (show (3 : Int32) ≤ nI 3 by decide)]) (by omega)
  exact this
