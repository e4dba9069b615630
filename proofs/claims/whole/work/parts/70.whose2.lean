/-! ===== the class's way to the lean sets ===== -/
theorem d32 : ∀ a, a < 1024 → nI a / 32 = nI (a / 32) ∧ nI a - nI a / 32 * 32 = nI (a % 32) := by decide +kernel
theorem rmv {t y : Nat} (ht : t < 1024) (hy : y < 32) : ∃ r, rmI (nI t) y = nI r ∧ r ≤ t ∧ r &&& t = r ∧ (bt (nI t) y = true → r < t) := by
  have hs : sub (rmI (nI t) y) 10 := sub_and (sub_lt (N := 10) ht)
  obtain ⟨r, hr, e⟩ := sub_10 (Nat.le_refl 10) hs
  have hi : r &&& t = r := by
    rw [ins_iff (by omega)]
    intro i hi
    rw [← e, bt_rmI hy] at hi
    exact hi.1
  have hl := and_le r t hi
  refine ⟨r, e, hl, hi, fun hb => ?_⟩
  apply Classical.byContradiction
  intro z
  have e2 : r = t := by omega
  rw [e2] at e
  rw [← e, bt_rmI hy] at hb
  exact hb.2 rfl
noncomputable def okX (p : PD) (s : SD) (x t : Nat) : Bool := okS p s x (nI t ||| ((1 : Int32) <<< (nI x &&& 31)))
noncomputable def spX (p : PD) (s : SD) (x t : Nat) : Bool := anyN (fun y => bt (nI t) y && okS p s x (rmI (nI t) y ||| ((1 : Int32) <<< (nI x &&& 31)))) p.n
noncomputable def leanX (p : PD) (s : SD) (x w t : Nat) : Bool := decide (t &&& w = t) && (okX p s x t && !spX p s x t)
def EA (h : AH) (p : PD) (s : SD) (x w a : Nat) : Prop := ∀ t, t < 1024 → bt (h.1 27 0 (t / 32)) (t % 32) = (decide (t < a) && (decide (t &&& w = t) && okX p s x t))
theorem x_isEnough {h : AH} {p : PD} {s : SD} {x w a : Nat} (ea : EA h p s x w a) {r : Nat} (hr : r < 1024) : f_X3_isEnough (nI r) h = some (if (decide (r < a) && (decide (r &&& w = r) && okX p s x r)) = true then 1 else 0, h) := by
  obtain ⟨d1, d2⟩ := d32 r hr
  unfold f_X3_isEnough
  rw [d2, d1, if_neg (nI_pos (by omega)), if_neg (nI_ge (b := 32) (by omega) (by omega)), if_pos (inb_nI (by omega) (by omega)), nI_cl (by omega), x_has _ (by omega), bd_some, if10, ea r hr, zn0, zn1]
  split <;> rfl
theorem x_oneLess {h : AH} {p : PD} {s : SD} (c : XC h p s) {x w a : Nat} (ea : EA h p s x w a) (ha : a < 1024) (ai : a &&& w = a) : f_X3_isEnoughWithOneLess (nI a) h = some (if spX p s x a = true then 1 else 0, h) := by
  have hn := c.1.n10
  unfold f_X3_isEnoughWithOneLess
  have := lpi (fun F (i : Int32) => l_X3_isEnoughWithOneLess_2 F (nI a) i h) p.n
    (fun j i => i = nI j ∧ ∀ y, y < j → (bt (nI a) y && okS p s x (rmI (nI a) y ||| ((1 : Int32) <<< (nI x &&& 31)))) = false)
    (fun o => o = some (if spX p s x a = true then 1 else 0, h)) (by
    rintro F j i hj ⟨rfl, hq⟩
    show b_X3_isEnoughWithOneLess_2 (l_X3_isEnoughWithOneLess_2 F) (nI a) (nI j) h = _ ∨ ∃ t2, _ ∧ b_X3_isEnoughWithOneLess_2 (l_X3_isEnoughWithOneLess_2 F) (nI a) (nI j) h = l_X3_isEnoughWithOneLess_2 F (nI a) t2 h
    unfold b_X3_isEnoughWithOneLess_2
    obtain ⟨r, r1, r2, r3, r4⟩ := rmv ha (show j < 32 by omega)
    have r1' : nI a &&& (((1 : Int32) <<< (nI j &&& 31)) ^^^ (-1)) = nI r := r1
    rw [c.n, if_neg (nI_ge hj (by omega)), x_has _ (by omega), bd_some, if10, r1', x_isEnough ea (by omega), bd_some, if10, nI_1, zn1]
    have go : (bt (nI a) j && okS p s x (rmI (nI a) j ||| ((1 : Int32) <<< (nI x &&& 31)))) = false → ∀ y, y < j + 1 → (bt (nI a) y && okS p s x (rmI (nI a) y ||| ((1 : Int32) <<< (nI x &&& 31)))) = false := fun z k hk => by
      by_cases e : k = j
      · rw [e]; exact z
      · exact hq k (by omega)
    by_cases e : bt (nI a) j = true
    · rw [if_pos e]
      have rw_ : r &&& w = r := by
        rw [← r3, Nat.and_assoc, ai]
      rw [decide_eq_true (r4 e), Bool.true_and, decide_eq_true rw_, Bool.true_and]
      have hok : okX p s x r = okS p s x (rmI (nI a) j ||| ((1 : Int32) <<< (nI x &&& 31))) := by rw [r1]; rfl
      rw [hok]
      by_cases f : okS p s x (rmI (nI a) j ||| ((1 : Int32) <<< (nI x &&& 31))) = true
      · left
        rw [if_pos f, if_pos]
        unfold spX
        rw [anyN_iff]
        exact ⟨j, hj, by rw [e, f]; rfl⟩
      · right
        rw [if_neg f]
        exact ⟨_, ⟨rfl, go (by simp [f])⟩, rfl⟩
    · right
      rw [if_neg e]
      exact ⟨_, ⟨rfl, go (by simp [e])⟩, rfl⟩) (by
    rintro F i ⟨rfl, hq⟩
    show b_X3_isEnoughWithOneLess_2 (l_X3_isEnoughWithOneLess_2 F) (nI a) (nI p.n) h = _
    unfold b_X3_isEnoughWithOneLess_2
    rw [c.n, if_pos (Int32.le_refl _), zn0, if_neg]
    unfold spX
    rw [anyN_f.mpr hq]
    decide) (by omega) 0 ⟨rfl, fun y hy => by omega⟩
  exact this
theorem x_stC {h : AH} {p : PD} {s : SD} (c : XC h p s) {C : Int32} (hC : ∀ i, bt C i = true → bt s.aw i = false) : f_X0_standingBy (C ^^^ (-1)) (-1) h = some (SW p s (C ^^^ (-1)), h) := by
  have hm := c.1.m14
  have hn := c.1.n10
  rw [x_standingBy c, SW, ST_c c.1 (g' := fun i => bt s.aw i || bt (C ^^^ (-1)) i) (r' := fun _ => true) (fun x hx => ?_) (fun k hk => bt_m1 k (by omega))]
  cases e : bt s.aw x
  · rw [Bool.false_or]
  · rw [Bool.true_or, bt_not _ (by omega)]
    cases f : bt C x
    · rfl
    · rw [hC x f] at e; contradiction
theorem x_fillE (h : AH) : f_J7_fill_53178_enough 0 h = some ((), hfl h 27 0 0 32 (fun _ => 0)) := by
  unfold f_J7_fill_53178_enough
  have := lp0 (fun F j => l_J7_fill_53178_enough_5 F 0 (nI j) (nI 32) (hfl h 27 0 0 j (fun _ => 0))) 32 (some ((), hfl h 27 0 0 32 (fun _ => 0))) (by
    intro F j hj
    show b_J7_fill_53178_enough_5 (l_J7_fill_53178_enough_5 F) 0 (nI j) (nI 32) _ = l_J7_fill_53178_enough_5 F 0 (nI (j + 1)) (nI 32) _
    rw [← hfl_s0]
    unfold b_J7_fill_53178_enough_5
    rw [if_neg (nI_ge hj (by omega)), if_pos (inb_nI (by omega) (by omega)), nI_cl (by omega), nI_1]) (by
    intro F
    show b_J7_fill_53178_enough_5 (l_J7_fill_53178_enough_5 F) 0 (nI 32) (nI 32) _ = _
    unfold b_J7_fill_53178_enough_5
    rw [if_pos (Int32.le_refl _)]) (by omega)
  simp only [nI_0, hfl_0] at this
  rw [this]
  rfl
theorem x_mark0 (t : Int32) (h : AH) : f_X3_markEnough t 0 h = some ((), h) := by
  unfold f_X3_markEnough
  rw [if_pos rfl]
theorem x_mark1 {a : Nat} (ha : a < 1024) (h : AH) : f_X3_markEnough (nI a) 1 h = some ((), hsI h 27 0 (a / 32) (h.1 27 0 (a / 32) ||| ((1 : Int32) <<< (nI (a % 32) &&& 31)))) := by
  obtain ⟨d1, d2⟩ := d32 a ha
  unfold f_X3_markEnough
  rw [d2, d1, if_neg i10, if_neg (nI_pos (by omega)), if_neg (nI_ge (b := 32) (by omega) (by omega)), if_pos (inb_nI (by omega) (by omega)), if_pos (inb_nI (by omega) (by omega)), nI_cl (by omega)]
theorem EA.mark {h : AH} {p : PD} {s : SD} {x w a : Nat} (ea : EA h p s x w a) (ha : a < 1024) (ai : a &&& w = a) (ok : okX p s x a = true) : EA (hsI h 27 0 (a / 32) (h.1 27 0 (a / 32) ||| ((1 : Int32) <<< (nI (a % 32) &&& 31)))) p s x w (a + 1) := by
  intro t ht
  rw [hsI_1]
  by_cases e : t = a
  · rw [if_pos ⟨rfl, rfl, by rw [e]⟩, e, bt_or, bt_sl _ (by omega) _ (by omega), decide_eq_true rfl, Bool.or_true, decide_eq_true (show a < a + 1 by omega), decide_eq_true ai, ok]
    rfl
  · have h1 : decide (t < a + 1) = decide (t < a) := by
      by_cases f : t < a
      · rw [decide_eq_true f, decide_eq_true (by omega)]
      · rw [decide_eq_false f, decide_eq_false (by omega)]
    rw [h1, ← ea t ht]
    by_cases f : t / 32 = a / 32
    · rw [if_pos ⟨rfl, rfl, f⟩, bt_or, bt_sl _ (by omega) _ (by omega), decide_eq_false (by omega), Bool.or_false, f]
    · rw [if_neg (fun z => f z.2.2)]
theorem EA.skip {h : AH} {p : PD} {s : SD} {x w a : Nat} (ea : EA h p s x w a) (ok : okX p s x a = false) : EA h p s x w (a + 1) := by
  intro t ht
  rw [ea t ht]
  by_cases e : t = a
  · rw [e, decide_eq_false (by omega), ok]; simp
  · have h1 : decide (t < a + 1) = decide (t < a) := by
      by_cases f : t < a
      · rw [decide_eq_true f, decide_eq_true (by omega)]
      · rw [decide_eq_false f, decide_eq_false (by omega)]
    rw [h1]
theorem EA.gap {h : AH} {p : PD} {s : SD} {x w a b : Nat} (ea : EA h p s x w a) (hab : a ≤ b) (g : ∀ t, a ≤ t → t < b → ¬ t &&& w = t) : EA h p s x w b := by
  intro t ht
  rw [ea t ht]
  by_cases e : t &&& w = t
  · have h1 : decide (t < b) = decide (t < a) := by
      by_cases f : t < a
      · rw [decide_eq_true f, decide_eq_true (by omega)]
      · rw [decide_eq_false f, decide_eq_false (fun z => g t (by omega) z e)]
    rw [h1]
  · rw [decide_eq_false e]; simp
theorem x_someL {h : AH} {p : PD} {s : SD} (c : XC h p s) {x w : Nat} (hx : x < p.n) (hw : w < 1024) (hC : ∀ i, bt (nI w ||| ((1 : Int32) <<< (nI x &&& 31))) i = true → bt s.aw i = false) (ea : EA h p s x w 0) : ∃ h2, l_X3_actsSomeWay_27 FU (nI x) ((1 : Int32) <<< (nI x &&& 31)) (nI w) ((1 : Int32) <<< (nI x &&& 31)) 0 0 h = some (un (leanX p s x w) ((1 : Int32) <<< (nI x &&& 31)) (w + 1) &&& ACt p, h2) ∧ SX h h2 := by
  have hn := c.1.n10
  have := lpi (fun F (q : Int32 × Int32 × Int32 × AH) => l_X3_actsSomeWay_27 F (nI x) ((1 : Int32) <<< (nI x &&& 31)) (nI w) q.1 q.2.1 q.2.2.1 q.2.2.2) 1024
    (fun j q => ∃ a, j ≤ a ∧ a ≤ w ∧ a &&& w = a ∧ q.2.1 = nI a ∧ q.2.2.1 = nI j ∧ q.1 = un (leanX p s x w) ((1 : Int32) <<< (nI x &&& 31)) a ∧ SX h q.2.2.2 ∧ EA q.2.2.2 p s x w a)
    (fun o => ∃ h2, o = some (un (leanX p s x w) ((1 : Int32) <<< (nI x &&& 31)) (w + 1) &&& ACt p, h2) ∧ SX h h2) (by
    rintro F j ⟨us_, ot, i, g⟩ hj ⟨a, ja, aw, ai, q1, q2, q3, q4, q5⟩
    simp only at q1 q2 q3 q4 q5
    subst q1 q2 q3
    have cg := c.fr q4.k
    have hCa : ∀ i, bt (nI a ||| ((1 : Int32) <<< (nI x &&& 31))) i = true → bt s.aw i = false := fun i hi => by
      apply hC i
      rw [bt_or, Bool.or_eq_true] at hi ⊢
      rcases hi with z | z
      · exact Or.inl ((ins_iff (by omega)).mp ai i z)
      · exact Or.inr z
    have hs : un (leanX p s x w) ((1 : Int32) <<< (nI x &&& 31)) (a + 1) = un (leanX p s x w) ((1 : Int32) <<< (nI x &&& 31)) a ||| (if leanX p s x w a = true then nI a else 0) := rfl
    have hl : leanX p s x w a = (okX p s x a && !spX p s x a) := by
      unfold leanX
      rw [decide_eq_true ai, Bool.true_and]
    have hb : ∃ g2, SX h g2 ∧ EA g2 p s x w (a + 1) ∧ b_X3_actsSomeWay_27 (l_X3_actsSomeWay_27 F) (nI x) ((1 : Int32) <<< (nI x &&& 31)) (nI w) (un (leanX p s x w) ((1 : Int32) <<< (nI x &&& 31)) a) (nI a) (nI j) g = (if nI a = nI w then bd (f_X6_bitsOf 0 3 g2) (fun y h => some (un (leanX p s x w) ((1 : Int32) <<< (nI x &&& 31)) (a + 1) &&& y, h)) else bd (f_X3_nextSubset (nI a) (nI w) g2) (fun y h => l_X3_actsSomeWay_27 F (nI x) ((1 : Int32) <<< (nI x &&& 31)) (nI w) (un (leanX p s x w) ((1 : Int32) <<< (nI x &&& 31)) (a + 1)) y (nI j + 1) h)) := by
      unfold b_X3_actsSomeWay_27
      rw [if_neg (show ¬ (1024 : Int32) ≤ nI j from nI_ge (b := 1024) (by omega) (by omega)), x_oneLess cg q5 (by omega) ai, bd_some]
      cases sp : spX p s x a
      · rw [if_neg (show ¬ false = true by decide), if_pos rfl, x_stC cg hCa, bd_some, x_has _ (by omega), bd_some, if10]
        cases ok : okX p s x a
        · have ok' : ¬ bt (SW p s ((nI a ||| ((1 : Int32) <<< (nI x &&& 31))) ^^^ (-1))) x = true := by
            have : okX p s x a = bt (SW p s ((nI a ||| ((1 : Int32) <<< (nI x &&& 31))) ^^^ (-1))) x := rfl
            rw [← this, ok]; decide
          rw [if_neg ok', x_mark0, bd_some]
          refine ⟨g, q4, q5.skip ok, ?_⟩
          rw [hs, hl, ok, sp, if_neg (show ¬ (false && !false) = true by decide)]
        · have ok' : bt (SW p s ((nI a ||| ((1 : Int32) <<< (nI x &&& 31))) ^^^ (-1))) x = true := ok
          rw [if_pos ok', if_pos rfl, x_mark1 (by omega), bd_some]
          refine ⟨_, q4.sI (by omega), q5.mark (by omega) ai ok, ?_⟩
          rw [hs, hl, ok, sp, if_pos (show (true && !false) = true by decide)]
      · have ok : okX p s x a = true := by
          unfold spX at sp
          rw [anyN_iff] at sp
          obtain ⟨y, hy, h2⟩ := sp
          rw [Bool.and_eq_true] at h2
          refine okS_mono c.1 (fun i hi => ?_) h2.2
          rw [bt_or, Bool.or_eq_true] at hi ⊢
          rcases hi with z | z
          · rw [bt_rmI (by omega)] at z
            exact Or.inl z.1
          · exact Or.inr z
        rw [if_pos rfl, if_neg i10, if_neg i10, x_mark1 (by omega), bd_some]
        refine ⟨_, q4.sI (by omega), q5.mark (by omega) ai ok, ?_⟩
        rw [hs, hl, ok, sp, if_neg (show ¬ (true && !true) = true by decide)]
    obtain ⟨g2, b1, b2, b3⟩ := hb
    have cg2 := c.fr b1.k
    show (∃ h2, b_X3_actsSomeWay_27 (l_X3_actsSomeWay_27 F) (nI x) ((1 : Int32) <<< (nI x &&& 31)) (nI w) _ (nI a) (nI j) g = _ ∧ _) ∨ ∃ t2 : Int32 × Int32 × Int32 × AH, _ ∧ b_X3_actsSomeWay_27 (l_X3_actsSomeWay_27 F) (nI x) ((1 : Int32) <<< (nI x &&& 31)) (nI w) _ (nI a) (nI j) g = l_X3_actsSomeWay_27 F (nI x) ((1 : Int32) <<< (nI x &&& 31)) (nI w) t2.1 t2.2.1 t2.2.2.1 t2.2.2.2
    rw [b3]
    by_cases e : a = w
    · left
      rw [if_pos (by rw [e]), x_bits3 cg2, bd_some, e]
      exact ⟨g2, rfl, b1⟩
    · right
      rw [if_neg (fun z => e ((nI_eq (by omega) (by omega)).mp z))]
      unfold f_X3_nextSubset
      rw [bd_some, nI_nx (by omega) (by omega), nI_1]
      obtain ⟨g1, g3⟩ := nxt_gt (by omega) ai (by omega)
      have g4 := and_le _ _ (nxt_sub a w)
      have nogap : ∀ t, a + 1 ≤ t → t < nxt a w → ¬ t &&& w = t := fun t h1 h2 zz => by
        have := g3 t zz (by omega)
        omega
      have gap := un_gap (leanX p s x w) ((1 : Int32) <<< (nI x &&& 31)) (a + 1) (nxt a w - (a + 1)) (fun z h1 h2 => by
        unfold leanX
        rw [decide_eq_false (nogap z h1 (by omega)), Bool.false_and])
      rw [show a + 1 + (nxt a w - (a + 1)) = nxt a w by omega] at gap
      exact ⟨(un (leanX p s x w) ((1 : Int32) <<< (nI x &&& 31)) (a + 1), nI (nxt a w), nI (j + 1), g2), ⟨nxt a w, by omega, g4, nxt_sub a w, rfl, rfl, gap.symm, b1, b2.gap (by omega) nogap⟩, rfl⟩) (by
    rintro F ⟨us_, ot, i, g⟩ ⟨a, ja, aw, -⟩
    omega) (by omega) ((1 : Int32) <<< (nI x &&& 31), 0, 0, h) ⟨0, Nat.le_refl _, Nat.zero_le _, Nat.zero_and _, rfl, rfl, rfl, SX.rfl, ea⟩
  exact this
