/-! ===== longest, by the reference ===== -/
def BM (h : AH) (b : (Nat × (Nat → Nat))) : Prop := h.1 34 0 38 = nI b.1 ∧ ∀ i, i < b.1 → h.1 58 0 i = nI (b.2 i)
theorem m_lay9 {p : PD} {j : Nat} {tr : Nat → Nat} (hj : j ≤ 10) {h : AH} (t : TA h 57 p tr j) (R : Int32 → Int32 → AH → Option (Unit × AH)) (x2 : Int32) : l_X12_layLongest_9 R FU (nI j) x2 0 h = some ((), hfl h 58 0 0 j (fun i => nI (tr i))) := by
  have := lp0 (fun F i => l_X12_layLongest_9 R F (nI j) x2 (nI i) (hfl h 58 0 0 i (fun i => nI (tr i)))) j (some ((), hfl h 58 0 0 j (fun i => nI (tr i)))) (by
    intro F i hi
    show b_X12_layLongest_9 R (l_X12_layLongest_9 R F) (nI j) x2 (nI i) _ = l_X12_layLongest_9 R F (nI j) x2 (nI (i + 1)) _
    rw [← hfl_s0]
    unfold b_X12_layLongest_9
    rw [if_neg (nI_ge hi (by omega)), if_pos (inb_nI (by omega) (by omega)), if_pos (inb_nI (by omega) (by omega)), nI_cl (by omega), hfl_k (a := 57) (by decide), (t i hi).1, nI_1]) (by
    intro F
    show b_X12_layLongest_9 R (l_X12_layLongest_9 R F) (nI j) x2 (nI j) _ = _
    unfold b_X12_layLongest_9
    rw [if_pos (Int32.le_refl _)]) (by omega)
  simp only [nI_0, hfl_0] at this
  exact this
/-- what is free: reached and not seen -/
def FS2 (p : PD) (s : SD) (x0 : Nat) (F S : Int32) : Prop := ∀ i, i < p.n → bt F i = (@decide (Rch p s x0 i) (Classical.propDecidable _) && !bt S i)
theorem m_go {p : PD} {s : SD} {x0 : Nat} (hx0 : x0 < p.n) : ∀ D j tr F S b h, MC h p s → TA h 57 p tr j → Rch p s x0 (tr (j - 1)) → FS2 p s x0 F S → BM h b → BV p b → 0 < j → j + cnt (bt F) 14 ≤ 10 → cnt (bt F) 14 < D → ∃ h2, f_X12_layLongest D (nI j) S h = some ((), h2) ∧ TJ h h2 j ∧ BM h2 (dg p s D j tr F b)
  | D + 1, j, tr, F, S, b, h, c, t, hr, hf, bm, bv, h0, hj, hD => by
    have hn := c.1.n10
    have hv := bv.1
    show ∃ h2, g_X12_layLongest (f_X12_layLongest D) (nI j) S h = some ((), h2) ∧ _
    unfold g_X12_layLongest
    have hx := (t (j - 1) (by omega)).2
    have loop : ∀ b1 h1, TJ h h1 j → BM h1 b1 → BV p b1 → ∃ h2, (if inb (nI j - (1 : Int32)) 32 = true then bd (f_X12_nextSet (h1.1 57 0 (nI j - (1 : Int32)).toNatClampNeg) h1) (fun y1 h2 => bd (l_X12_layLongest_33 (f_X12_layLongest D) FU (nI j) S y1 (0 : Int32) h2) (fun v h => c_X12_layLongest_62 (f_X12_layLongest D) h)) else none) = some ((), h2) ∧ TJ h h2 j ∧ BM h2 (flB (fun y b => if (bt (nxs p s (tr (j - 1)) p.m) y && bt F y) = true then dg p s D (j + 1) (up tr j y) (rmI F y) b else b) p.n b1) := by
      intro b1 h1 t1 m1 v1
      have c1 := c.fr t1.1.k
      have ta1 := t1.ta t
      rw [nI_sub1 h0, if_pos (inb_nI (by omega) (by omega)), nI_cl (by omega), (ta1 (j - 1) (by omega)).1, m_nextSet c1 (by omega), bd_some]
      have := lpi (fun G (q : Int32 × AH) => l_X12_layLongest_33 (f_X12_layLongest D) G (nI j) S (nxs p s (tr (j - 1)) p.m) q.1 q.2) p.n
        (fun y q => q.1 = nI y ∧ TJ h q.2 j ∧ BM q.2 (flB (fun y b => if (bt (nxs p s (tr (j - 1)) p.m) y && bt F y) = true then dg p s D (j + 1) (up tr j y) (rmI F y) b else b) y b1) ∧ BV p (flB (fun y b => if (bt (nxs p s (tr (j - 1)) p.m) y && bt F y) = true then dg p s D (j + 1) (up tr j y) (rmI F y) b else b) y b1))
        (fun o => ∃ h2, o = some ((), h2) ∧ TJ h h2 j ∧ BM h2 (flB (fun y b => if (bt (nxs p s (tr (j - 1)) p.m) y && bt F y) = true then dg p s D (j + 1) (up tr j y) (rmI F y) b else b) p.n b1)) (by
        rintro G y ⟨i, g⟩ hy ⟨q1, q2, q3, q4⟩
        simp only at q1 q2 q3 q4
        subst q1
        right
        have cg := c.fr q2.1.k
        show ∃ t2 : Int32 × AH, _ ∧ b_X12_layLongest_33 (f_X12_layLongest D) (l_X12_layLongest_33 (f_X12_layLongest D) G) (nI j) S (nxs p s (tr (j - 1)) p.m) (nI y) g = l_X12_layLongest_33 (f_X12_layLongest D) G (nI j) S (nxs p s (tr (j - 1)) p.m) t2.1 t2.2
        have hs : ∀ b1, flB (fun y b => if (bt (nxs p s (tr (j - 1)) p.m) y && bt F y) = true then dg p s D (j + 1) (up tr j y) (rmI F y) b else b) (y + 1) b1 = if (bt (nxs p s (tr (j - 1)) p.m) y && bt F y) = true then dg p s D (j + 1) (up tr j y) (rmI F y) (flB (fun y b => if (bt (nxs p s (tr (j - 1)) p.m) y && bt F y) = true then dg p s D (j + 1) (up tr j y) (rmI F y) b else b) y b1) else (flB (fun y b => if (bt (nxs p s (tr (j - 1)) p.m) y && bt F y) = true then dg p s D (j + 1) (up tr j y) (rmI F y) b else b) y b1) := fun _ => rfl
        unfold b_X12_layLongest_33
        rw [cg.n, if_neg (nI_ge hy (by omega)), m_has _ (by omega), bd_some, if10, m_has _ (by omega), bd_some, if10, if_pos (inb_nI (show j < 32 by omega) (by omega)), nI_cl (show j < 100000 by omega), nI_1, nI_1]
        by_cases en : bt (nxs p s (tr (j - 1)) p.m) y = true
        · have ry : Rch p s x0 y := by
            obtain ⟨k, k1, k2, k3, k4⟩ := (bt_nxs p s (tr (j - 1)) p.m y).mp en
            exact (Rch.cl p s x0).2 k k1 k3 (by rw [k2]; exact hr) y k4
          have hFy : bt F y = !bt S y := by
            rw [hf y hy, @decide_eq_true _ (Classical.propDecidable _) ry, Bool.true_and]
          rw [if_pos en]
          by_cases es : bt S y = true
          · have e : ¬ (bt (nxs p s (tr (j - 1)) p.m) y && bt F y) = true := by rw [en, hFy, es]; decide
            rw [if_pos es]
            refine ⟨(nI (y + 1), g), ⟨rfl, q2, ?_, ?_⟩, rfl⟩
            · rw [hs, if_neg e]; exact q3
            · rw [hs, if_neg e]; exact q4
          · have e : (bt (nxs p s (tr (j - 1)) p.m) y && bt F y) = true := by
              rw [en, hFy, Bool.true_and]
              simpa using es
            have e2 : bt F y = true := by rw [hFy]; simpa using es
            have hrm := cnt_rm (F := F) (y := y) (by omega) e2
            have hut : ∀ i, i < j + 1 → up tr j y i < p.n := fun i hi => by
              unfold up
              split
              · exact hy
              · exact (t i (by omega)).2
            have sc : SM g (hsI g 57 0 j (nI y)) := SM.rfl.sI (by omega)
            have hsc : TJ g (hsI g 57 0 j (nI y)) j := ⟨sc, fun i hi => by rw [hsI_1, if_neg (by omega)]⟩
            have tj := q2.tr hsc (Nat.le_refl _)
            have ta2 : TA (hsI g 57 0 j (nI y)) 57 p (up tr j y) (j + 1) := fun i hi => by
              refine ⟨?_, hut i hi⟩
              unfold up
              by_cases ei : i = j
              · rw [if_pos ei, hsI_1, if_pos ⟨rfl, rfl, ei⟩]
              · rw [if_neg ei]
                exact ((tj.ta t) i (by omega)).1
            have hup : up tr j y (j + 1 - 1) = y := by
              unfold up
              rw [if_pos (by omega)]
            have hf2 : FS2 p s x0 (rmI F y) (S ||| ((1 : Int32) <<< (nI y &&& 31))) := fun i hi => by
              rw [bt_or, bt_sl _ (by omega) _ (by omega)]
              rw [Bool.eq_iff_iff, bt_rmI (by omega), hf i hi]
              generalize @decide (Rch p s x0 i) (Classical.propDecidable _) = w
              cases w <;> cases bt S i <;> simp
            obtain ⟨h2, r1, r2, r3⟩ := m_go hx0 D (j + 1) (up tr j y) (rmI F y) (S ||| ((1 : Int32) <<< (nI y &&& 31))) _ (hsI g 57 0 j (nI y)) (c.fr tj.1.k) ta2 (by rw [hup]; exact ry) hf2 ⟨by rw [hsI_k (by decide)]; exact q3.1, fun i hi => by rw [hsI_k (by decide)]; exact q3.2 i hi⟩ q4 (by omega) (by omega) (by omega)
            rw [if_neg es, r1, bd_some]
            refine ⟨(nI (y + 1), h2), ⟨rfl, tj.tr r2 (by omega), ?_, ?_⟩, rfl⟩
            · rw [hs, if_pos e]; exact r3
            · rw [hs, if_pos e]; exact dg_v c.1 s D (j + 1) _ _ _ (by omega) hut q4
        · have e : ¬ (bt (nxs p s (tr (j - 1)) p.m) y && bt F y) = true := by
            rw [Bool.and_eq_true]
            exact fun z => en z.1
          rw [if_neg en]
          refine ⟨(nI (y + 1), g), ⟨rfl, q2, ?_, ?_⟩, rfl⟩
          · rw [hs, if_neg e]; exact q3
          · rw [hs, if_neg e]; exact q4) (by
        rintro G ⟨i, g⟩ ⟨q1, q2, q3, q4⟩
        simp only at q1 q2 q3 q4
        subst q1
        have cg := c.fr q2.1.k
        show ∃ h2, b_X12_layLongest_33 (f_X12_layLongest D) (l_X12_layLongest_33 (f_X12_layLongest D) G) (nI j) S (nxs p s (tr (j - 1)) p.m) (nI p.n) g = some ((), h2) ∧ _
        unfold b_X12_layLongest_33
        rw [cg.n, if_pos (Int32.le_refl _)]
        exact ⟨g, rfl, q2, q3⟩) (by omega) (0, h1) ⟨rfl, t1, m1, v1⟩
      obtain ⟨h2, z1, z2⟩ := this
      have z1' : l_X12_layLongest_33 (f_X12_layLongest D) FU (nI j) S (nxs p s (tr (j - 1)) p.m) 0 h1 = some ((), h2) := z1
      rw [z1', bd_some]
      exact ⟨h2, rfl, z2⟩
    rw [bm.1]
    by_cases nw : b.1 < j
    · rw [if_neg (nI_ge nw (by omega))]
      have s1 : SM h (hsI h 34 0 38 (nI j)) := SM.rfl.sI (by omega)
      have ta1 : TA (hsI h 34 0 38 (nI j)) 57 p tr j := fun i hi => by
        rw [hsI_k (by decide)]; exact t i hi
      have s2 : SM h (hfl (hsI h 34 0 38 (nI j)) 58 0 0 j (fun i => nI (tr i))) := s1.fl (by omega)
      obtain ⟨h2, r1, r2, r3⟩ := loop (j, tr) (hfl (hsI h 34 0 38 (nI j)) 58 0 0 j (fun i => nI (tr i))) ⟨s2, fun i hi => by rw [hfl_k (by decide), hsI_k (by decide)]⟩ ⟨by
        rw [hfl_k (by decide), hsI_1, if_pos ⟨rfl, rfl, rfl⟩], fun i hi => by
        have hi' : i < j := hi
        rw [hfl_1, if_pos (by omega)]; rfl⟩ ⟨by show j ≤ 10; omega, fun i hi => (t i hi).2⟩
      rw [m_lay9 (by omega) ta1, bd_some]
      unfold c_X12_layLongest_22
      refine ⟨h2, r1, r2, ?_⟩
      show BM h2 (flB _ p.n (if b.1 < j then (j, tr) else b))
      rw [if_pos nw]; exact r3
    · rw [if_pos (nI_le (by omega) (by omega))]
      obtain ⟨h2, r1, r2, r3⟩ := loop b h ⟨SM.rfl, fun _ _ => rfl⟩ bm bv
      refine ⟨h2, r1, r2, ?_⟩
      show BM h2 (flB _ p.n (if b.1 < j then (j, tr) else b))
      rw [if_neg nw]; exact r3
theorem x_long2 {h : AH} {p : PD} {s : SD} (c : XC h p s) (x1 : Int32) : l_X10_longestFrom_2 FU x1 0 h = some ((), hfl h 22 0 0 p.n (fun x => nxs p s x p.m)) := by
  have hn := c.1.n10
  have := lp0 (fun F j => l_X10_longestFrom_2 F x1 (nI j) (hfl h 22 0 0 j (fun x => nxs p s x p.m))) p.n (some ((), hfl h 22 0 0 p.n (fun x => nxs p s x p.m))) (by
    intro F j hj
    show b_X10_longestFrom_2 (l_X10_longestFrom_2 F) x1 (nI j) (hfl h 22 0 0 j (fun x => nxs p s x p.m)) = l_X10_longestFrom_2 F x1 (nI (j + 1)) (hfl h 22 0 0 (j + 1) (fun x => nxs p s x p.m))
    have ck : XC (hfl h 22 0 0 j (fun x => nxs p s x p.m)) p s := c.fr (SX.rfl.fl (by omega)).k
    rw [← hfl_s0]
    unfold b_X10_longestFrom_2
    rw [ck.n, if_neg (nI_ge hj (by omega)), x_nextOf ck (by omega), bd_some, if_pos (inb_nI (by omega) (by omega)), nI_cl (by omega), nI_1]) (by
    intro F
    show b_X10_longestFrom_2 (l_X10_longestFrom_2 F) x1 (nI p.n) _ = _
    unfold b_X10_longestFrom_2
    rw [hfl_k (a := 12) (by decide), c.n, if_pos (Int32.le_refl _)]) (by omega)
  simp only [nI_0, hfl_0] at this
  exact this
theorem x_takeL {r n : Nat} (hn : n ≤ 10) (h : AH) : f_X5_take_longTrail r (nI n) h = some ((), hfl (hfl (hsI h 2 r 1 (nI n)) 3 r 0 40 (fun _ => 0)) 3 r 0 n (fun i => h.1 20 0 i)) := by
  unfold f_X5_take_longTrail
  rw [x_renew, bd_some]
  have := lp0 (fun F j => l_X5_take_longTrail_5 F r (nI n) (nI j) (hfl (hfl (hsI h 2 r 1 (nI n)) 3 r 0 40 (fun _ => 0)) 3 r 0 j (fun i => h.1 20 0 i))) n (some ((), hfl (hfl (hsI h 2 r 1 (nI n)) 3 r 0 40 (fun _ => 0)) 3 r 0 n (fun i => h.1 20 0 i))) (by
    intro F j hj
    show b_X5_take_longTrail_5 (l_X5_take_longTrail_5 F) r (nI n) (nI j) _ = _
    unfold b_X5_take_longTrail_5
    rw [if_neg (nI_ge hj (by omega)), if_neg (show ¬ (40 : Int32) ≤ nI j from nI_ge (b := 40) (by omega) (by omega)), if_neg (nI_ge (by omega) (by omega)), if_pos (inb_nI (show j < 10 by omega) (by omega)), if_pos (inb_nI (show j < 40 by omega) (by omega)), nI_cl (by omega), nI_1, hfl_k (by decide), hfl_k (by decide), hsI_k (by decide)]
    exact congrArg _ (hfl_s0 _ 3 r j (fun i => h.1 20 0 i))) (by
    intro F
    show b_X5_take_longTrail_5 (l_X5_take_longTrail_5 F) r (nI n) (nI n) _ = _
    unfold b_X5_take_longTrail_5
    rw [if_pos (Int32.le_refl _)]) (by omega)
  rw [hfl_0, nI_0] at this
  rw [this]
  rfl
theorem m_layB {r n : Nat} (hr : r < 6) (hn : n ≤ 10) (h : AH) : f_X12_layRow_m_bestTried (nI r) (nI n) h = some ((), hfl (hsI h 36 0 r (nI n)) 37 0 (40 * r) 40 (fun i => if i < n then h.1 58 0 i else 0)) := by
  unfold f_X12_layRow_m_bestTried
  rw [if_pos (inb_nI hr (by omega)), nI_cl (by omega)]
  have := lp0 (fun F j => l_X12_layRow_m_bestTried_7 F (nI r) (nI n) (nI j) (hfl (hsI h 36 0 r (nI n)) 37 0 (40 * r) j (fun i => if i < n then h.1 58 0 i else 0))) 40 (some ((), hfl (hsI h 36 0 r (nI n)) 37 0 (40 * r) 40 (fun i => if i < n then h.1 58 0 i else 0))) (by
    intro F j hj
    show b_X12_layRow_m_bestTried_7 (l_X12_layRow_m_bestTried_7 F) (nI r) (nI n) (nI j) _ = _
    unfold b_X12_layRow_m_bestTried_7
    rw [ix40, if_neg (show ¬ (40 : Int32) ≤ nI j from nI_ge (b := 40) hj (by omega)), if_pos (inb_nI (show 40 * r + j < 240 by omega) (by omega)), nI_cl (show 40 * r + j < 100000 by omega), nI_cl (show j < 100000 by omega), nI_1, hfl_k (a := 58) (by decide), hsI_k (a := 58) (by decide), ← hfl_s]
    by_cases e : j < n
    · rw [if_neg (nI_ge e (by omega)), if_pos e, if_pos (inb_nI (show j < 10 by omega) (by omega)), if_pos (inb_nI (show 40 * r + j < 240 by omega) (by omega))]
    · rw [if_pos (nI_le (by omega) (by omega)), if_neg e]) (by
    intro F
    show b_X12_layRow_m_bestTried_7 (l_X12_layRow_m_bestTried_7 F) (nI r) (nI n) (nI 40) _ = _
    unfold b_X12_layRow_m_bestTried_7
    rw [if_pos (show (40 : Int32) ≤ nI 40 from Int32.le_refl _)]) (by omega)
  rw [hfl_0, nI_0] at this
  rw [this]
  rfl
