/-! ===== longest: the search, without machine ===== -/
def flB (g : Nat → (Nat × (Nat → Nat)) → (Nat × (Nat → Nat))) : Nat → (Nat × (Nat → Nat)) → (Nat × (Nat → Nat))
  | 0, b => b
  | y + 1, b => g y (flB g y b)
def dg (p : PD) (s : SD) : Nat → Nat → (Nat → Nat) → Int32 → (Nat × (Nat → Nat)) → (Nat × (Nat → Nat))
  | 0, _, _, _, b => b
  | D + 1, j, tr, F, b => flB (fun y b => if (bt (nxs p s (tr (j - 1)) p.m) y && bt F y) = true then dg p s D (j + 1) (up tr j y) (rmI F y) b else b) p.n (if b.1 < j then (j, tr) else b)
theorem cnt_rm {F : Int32} {y : Nat} (hy : y < 14) (h : bt F y = true) : cnt (bt (rmI F y)) 14 + 1 = cnt (bt F) 14 := by
  have : ∀ n, cnt (bt (rmI F y)) n + (if y < n then 1 else 0) = cnt (bt F) n := by
    intro n
    induction n with
    | zero => rfl
    | succ n ih =>
      rw [cnt_suc, cnt_suc]
      have hb : bt (rmI F y) n = (bt F n && !decide (n = y)) := by
        rw [Bool.eq_iff_iff, bt_rmI (by omega), Bool.and_eq_true, Bool.not_eq_true', decide_eq_false_iff_not]
      rw [hb]
      by_cases e : n = y
      · subst e
        rw [h, decide_eq_true rfl, if_neg (show ¬ (true && !true) = true by decide), if_pos (show true = true from rfl), if_pos (by omega)]
        rw [if_neg (by omega)] at ih
        omega
      · rw [decide_eq_false e, Bool.not_false, Bool.and_true]
        by_cases l : y < n
        · rw [if_pos l] at ih
          rw [if_pos (c := y < n + 1) (by omega)]
          omega
        · rw [if_neg l] at ih
          rw [if_neg (c := y < n + 1) (by omega)]
          omega
  have := this 14
  rw [if_pos hy] at this
  exact this
/-- where no longer one can be found nothing changes -/
theorem dg_prune {p : PD} (v : PV p) (s : SD) : ∀ D j tr F b, j + cnt (bt F) 14 ≤ b.1 → dg p s D j tr F b = b
  | 0, _, _, _, _, _ => rfl
  | D + 1, j, tr, F, b, h => by
    have hn := v.n10
    show flB _ p.n (if b.1 < j then (j, tr) else b) = b
    rw [if_neg (by omega)]
    have : ∀ n, n ≤ p.n → flB (fun y b => if (bt (nxs p s (tr (j - 1)) p.m) y && bt F y) = true then dg p s D (j + 1) (up tr j y) (rmI F y) b else b) n b = b := by
      intro n
      induction n with
      | zero => exact fun _ => rfl
      | succ n ih =>
        intro hn2
        show (if (bt (nxs p s (tr (j - 1)) p.m) n && bt F n) = true then dg p s D (j + 1) (up tr j n) (rmI F n) (flB _ n b) else (flB _ n b)) = b
        rw [ih (by omega)]
        split
        · rename_i q
          rw [Bool.and_eq_true] at q
          have := cnt_rm (by omega) q.2
          exact dg_prune v s D (j + 1) _ _ b (by omega)
        · rfl
    exact this p.n (Nat.le_refl _)
theorem flB_inv {g : Nat → (Nat × (Nat → Nat)) → (Nat × (Nat → Nat))} {P : (Nat × (Nat → Nat)) → Prop} : ∀ n b, P b → (∀ y b, y < n → P b → P (g y b)) → P (flB g n b)
  | 0, _, h, _ => h
  | n + 1, b, h, hs => hs n _ (by omega) (flB_inv n b h (fun y b hy => hs y b (by omega)))
/-- the best is at most so long, and lies in the room -/
def BV (p : PD) (b : (Nat × (Nat → Nat))) : Prop := b.1 ≤ 10 ∧ ∀ i, i < b.1 → b.2 i < p.n
theorem dg_v {p : PD} (v : PV p) (s : SD) : ∀ D j tr F b, j + cnt (bt F) 14 ≤ 10 → (∀ i, i < j → tr i < p.n) → BV p b → BV p (dg p s D j tr F b)
  | 0, _, _, _, _, _, _, h => h
  | D + 1, j, tr, F, b, hj, ht, h => by
    have hn := v.n10
    show BV p (flB _ p.n (if b.1 < j then (j, tr) else b))
    apply flB_inv
    · split
      · exact ⟨by show j ≤ 10; omega, ht⟩
      · exact h
    · intro y b hy hb
      split
      · rename_i q
        rw [Bool.and_eq_true] at q
        have := cnt_rm (by omega) q.2
        refine dg_v v s D (j + 1) _ _ b (by omega) (fun i hi => ?_) hb
        unfold up
        split
        · exact hy
        · exact ht i (by omega)
      · exact hb
/-! ===== the class's search ===== -/
theorem x_nextOf {h : AH} {p : PD} {s : SD} (c : XC h p s) {x : Nat} (hx : x < 32) : f_X0_nextOf (nI x) h = some (nxs p s x p.m, h) := by
  have hm := c.1.m14
  unfold f_X0_nextOf
  have := lp0 (fun F j => l_X0_nextOf_4 F (nI x) (nxs p s x j) (nI j) h) p.m (some (nxs p s x p.m, h)) (by
    intro F j hj
    have h10 := c.1.co10 hj
    have hb : inb (nI j) 14 = true := inb_nI (by omega) (by omega)
    have e1 : (nI (p.co j) = nI x) ↔ p.co j = x := nI_eq (by omega) (by omega)
    show b_X0_nextOf_4 (l_X0_nextOf_4 F) (nI x) _ (nI j) h = l_X0_nextOf_4 F (nI x) (nxs p s x j ||| (if p.co j = x ∧ us p s j = true then p.pa j else 0)) (nI (j + 1)) h
    unfold b_X0_nextOf_4
    rw [c.m, if_neg (nI_ge hj (by omega)), if_pos hb, nI_cl (by omega), c.co hj, x_isUsable c hj, bd_some, if10, if_pos hb, c.pa hj, nI_1]
    by_cases e : p.co j = x
    · rw [if_pos (e1.mpr e)]
      by_cases f : us p s j = true
      · rw [if_pos f, if_pos ⟨e, f⟩]
      · rw [if_neg f, if_neg (fun z => f z.2)]
    · rw [if_neg (fun z => e (e1.mp z)), if_neg (fun z => e z.1)]) (by
    intro F
    show b_X0_nextOf_4 (l_X0_nextOf_4 F) (nI x) _ (nI p.m) h = _
    unfold b_X0_nextOf_4
    rw [c.m, if_pos (Int32.le_refl _)]) (by omega)
  rw [nI_0] at this
  show bd (l_X0_nextOf_4 FU (nI x) (nxs p s x 0) 0 h) _ = _
  rw [this]
  rfl
def N22 (h : AH) (p : PD) (s : SD) : Prop := ∀ x, x < p.n → h.1 22 0 x = nxs p s x p.m
def BX (h : AH) (b : (Nat × (Nat → Nat))) : Prop := h.1 19 0 7 = nI b.1 - 1 ∧ ∀ i, i < b.1 → h.1 20 0 i = nI (b.2 i)
theorem nI_m1 {c k : Nat} (hc : c < 1000) (hk : k < 1000) : (nI k ≤ nI c - 1) ↔ k < c := by
  rw [i_le, nI_toInt (by omega)]
  by_cases e : c = 0
  · subst e
    have : (nI 0 - 1).toInt = -1 := rfl
    omega
  · rw [nI_sub1 (by omega), nI_toInt (by omega)]; omega
theorem x_go {p : PD} {s : SD} : ∀ D j tr F b h, XC h p s → N22 h p s → (∀ i, i < j - 1 → h.1 23 0 i = nI (tr i)) → (∀ i, i < j → tr i < p.n) → BX h b → BV p b → sub F p.n → 0 < j → j + cnt (bt F) 14 ≤ 10 → cnt (bt F) 14 < D → ∃ h2, f_X10_goFurther D (nI (tr (j - 1))) (nI (j - 1)) F h = some ((), h2) ∧ SX h h2 ∧ h2.1 22 = h.1 22 ∧ (∀ i, i < j - 1 → h2.1 23 0 i = h.1 23 0 i) ∧ BX h2 (dg p s D j tr F b)
  | D + 1, j, tr, F, b, h, c, h22, h23, ht, bx, bv, hF, h0, hj, hD => by
    have hn := c.1.n10
    have hc := cnt_le (bt F) 14
    have hv := bv.1
    show ∃ h2, g_X10_goFurther (f_X10_goFurther D) (nI (tr (j - 1))) (nI (j - 1)) F h = some ((), h2) ∧ _
    unfold g_X10_goFurther
    have hbc : bc F = nI (cnt (bt F) 14) := bc_eq (n := 14) (by omega) (sub_up hF (by omega))
    have hx := ht (j - 1) (by omega)
    rw [if_neg (show ¬ (10 : Int32) ≤ nI (j - 1) from nI_ge (b := 10) (by omega) (by omega)), x_bc, bd_some, hbc, nI_add, bx.1]
    have lt1 : (nI b.1 - 1 < nI (j - 1 + cnt (bt F) 14)) ↔ b.1 ≤ j - 1 + cnt (bt F) 14 := by
      have := nI_m1 (c := b.1) (k := j - 1 + cnt (bt F) 14) (by omega) (by omega)
      rw [i_le] at this
      rw [i_lt]
      omega
    by_cases pr : b.1 ≤ j - 1 + cnt (bt F) 14
    rotate_left
    · rw [if_neg (fun z => pr (lt1.mp z)), dg_prune c.1 s (D + 1) j tr F b (by omega)]
      exact ⟨h, rfl, SX.rfl, rfl, fun _ _ => rfl, bx⟩
    rw [if_pos (lt1.mpr pr), if_pos (inb_nI (by omega) (by omega)), nI_cl (by omega), hsI_k (show (19 : Nat) ≠ 23 by decide), bx.1]
    -- the loop over what comes next
    have loop : ∀ b1 h1, SX h h1 → h1.1 22 = h.1 22 → (∀ i, i < j → h1.1 23 0 i = nI (tr i)) → BX h1 b1 → BV p b1 → ∃ h2, l_X10_goFurther_35 (f_X10_goFurther D) FU (nI (tr (j - 1))) (nI (j - 1)) F 0 h1 = some ((), h2) ∧ SX h h2 ∧ h2.1 22 = h.1 22 ∧ (∀ i, i < j → h2.1 23 0 i = nI (tr i)) ∧ BX h2 (flB (fun y b => if (bt (nxs p s (tr (j - 1)) p.m) y && bt F y) = true then dg p s D (j + 1) (up tr j y) (rmI F y) b else b) p.n b1) := by
      intro b1 h1 s1 n1 t1 x1 v1
      have := lpi (fun G (q : Int32 × AH) => l_X10_goFurther_35 (f_X10_goFurther D) G (nI (tr (j - 1))) (nI (j - 1)) F q.1 q.2) p.n
        (fun y q => q.1 = nI y ∧ SX h q.2 ∧ q.2.1 22 = h.1 22 ∧ (∀ i, i < j → q.2.1 23 0 i = nI (tr i)) ∧ BX q.2 (flB (fun y b => if (bt (nxs p s (tr (j - 1)) p.m) y && bt F y) = true then dg p s D (j + 1) (up tr j y) (rmI F y) b else b) y b1) ∧ BV p (flB (fun y b => if (bt (nxs p s (tr (j - 1)) p.m) y && bt F y) = true then dg p s D (j + 1) (up tr j y) (rmI F y) b else b) y b1))
        (fun o => ∃ h2, o = some ((), h2) ∧ SX h h2 ∧ h2.1 22 = h.1 22 ∧ (∀ i, i < j → h2.1 23 0 i = nI (tr i)) ∧ BX h2 (flB (fun y b => if (bt (nxs p s (tr (j - 1)) p.m) y && bt F y) = true then dg p s D (j + 1) (up tr j y) (rmI F y) b else b) p.n b1)) (by
        rintro G y ⟨i, g⟩ hy ⟨q1, q2, q3, q4, q5, q6⟩
        simp only at q1 q2 q3 q4 q5 q6
        subst q1
        right
        have cg := c.fr q2.k
        have g22 : g.1 22 0 (tr (j - 1)) = nxs p s (tr (j - 1)) p.m := by rw [q3]; exact h22 _ hx
        show ∃ t2 : Int32 × AH, _ ∧ b_X10_goFurther_35 (f_X10_goFurther D) (l_X10_goFurther_35 (f_X10_goFurther D) G) (nI (tr (j - 1))) (nI (j - 1)) F (nI y) g = l_X10_goFurther_35 (f_X10_goFurther D) G (nI (tr (j - 1))) (nI (j - 1)) F t2.1 t2.2
        have hs : ∀ b1, flB (fun y b => if (bt (nxs p s (tr (j - 1)) p.m) y && bt F y) = true then dg p s D (j + 1) (up tr j y) (rmI F y) b else b) (y + 1) b1 = if (bt (nxs p s (tr (j - 1)) p.m) y && bt F y) = true then dg p s D (j + 1) (up tr j y) (rmI F y) (flB (fun y b => if (bt (nxs p s (tr (j - 1)) p.m) y && bt F y) = true then dg p s D (j + 1) (up tr j y) (rmI F y) b else b) y b1) else (flB (fun y b => if (bt (nxs p s (tr (j - 1)) p.m) y && bt F y) = true then dg p s D (j + 1) (up tr j y) (rmI F y) b else b) y b1) := fun _ => rfl
        unfold b_X10_goFurther_35
        rw [cg.n, if_neg (nI_ge hy (by omega)), if_pos (inb_nI (by omega) (by omega)), nI_cl (show tr (j - 1) < 100000 by omega), g22, x_has _ (by omega), bd_some, if10, bt_and, nI_1, nI_1, show j - 1 + 1 = j by omega]
        by_cases e : (bt (nxs p s (tr (j - 1)) p.m) y && bt F y) = true
        · have e2 := e
          rw [Bool.and_eq_true] at e2
          have hr := cnt_rm (F := F) (y := y) (by omega) e2.2
          have hup : up tr j y (j + 1 - 1) = y := by
            unfold up
            rw [if_pos (by omega)]
          have hut : ∀ i, i < j + 1 → up tr j y i < p.n := fun i hi => by
            unfold up
            split
            · exact hy
            · exact ht i (by omega)
          obtain ⟨h2, r1, r2, r3, r4, r5⟩ := x_go D (j + 1) (up tr j y) (rmI F y) _ g cg (fun x hx => by rw [q3]; exact h22 x hx) (fun i hi => by
            unfold up
            rw [if_neg (by omega)]
            exact q4 i (by omega)) hut q5 q6 (sub_and hF) (by omega) (by omega) (by omega)
          rw [hup, show j + 1 - 1 = j by omega] at r1
          have r1' : f_X10_goFurther D (nI y) (nI j) (F &&& (((1 : Int32) <<< (nI y &&& 31)) ^^^ (-1))) g = some ((), h2) := r1
          rw [if_pos e, r1', bd_some]
          refine ⟨(nI (y + 1), h2), ⟨rfl, q2.tr r2, r3.trans q3, fun i hi => (r4 i (by omega)).trans (q4 i hi), ?_, ?_⟩, rfl⟩
          · rw [hs, if_pos e]; exact r5
          · rw [hs, if_pos e]; exact dg_v c.1 s D (j + 1) _ _ _ (by omega) hut q6
        · rw [if_neg e]
          refine ⟨(nI (y + 1), g), ⟨rfl, q2, q3, q4, ?_, ?_⟩, rfl⟩
          · rw [hs, if_neg e]; exact q5
          · rw [hs, if_neg e]; exact q6) (by
        rintro G ⟨i, g⟩ ⟨q1, q2, q3, q4, q5, q6⟩
        simp only at q1 q2 q3 q4 q5 q6
        subst q1
        have cg := c.fr q2.k
        show ∃ h2, b_X10_goFurther_35 (f_X10_goFurther D) (l_X10_goFurther_35 (f_X10_goFurther D) G) (nI (tr (j - 1))) (nI (j - 1)) F (nI p.n) g = some ((), h2) ∧ _
        unfold b_X10_goFurther_35
        rw [cg.n, if_pos (Int32.le_refl _)]
        exact ⟨g, rfl, q2, q3, q4, q5⟩) (by omega) (0, h1) ⟨rfl, s1, n1, t1, x1, v1⟩
      exact this
    have t23 : ∀ i, i < j → (hsI h 23 0 (j - 1) (nI (tr (j - 1)))).1 23 0 i = nI (tr i) := fun i hi => by
      rw [hsI_1]
      by_cases e : i = j - 1
      · rw [if_pos ⟨rfl, rfl, e⟩, e]
      · rw [if_neg (fun z => e z.2.2)]; exact h23 i (by omega)
    have lt2 := nI_m1 (c := b.1) (k := j - 1) (by omega) (by omega)
    by_cases nw : b.1 < j
    · rw [if_neg (fun z => by have := lt2.mp z; omega), nI_1, show j - 1 + 1 = j by omega, if_pos (by
        rw [nI_cl (by omega)]
        have i0 : (0 : Int32).toNatClampNeg = 0 := rfl
        rw [i0]
        exact ⟨⟨by decide, by decide, nI_pos (by omega)⟩, by omega, by omega⟩), nI_cl (by omega)]
      have i0 : (0 : Int32).toNatClampNeg = 0 := rfl
      rw [i0]
      obtain ⟨h2, r1, r2, r3, r4, r5⟩ := loop (j, tr) (hcp (hsI (hsI h 23 0 (j - 1) (nI (tr (j - 1)))) 19 0 7 (nI (j - 1))) 23 0 20 0 0 0 j) (((SX.rfl.sI (by omega)).sI (by omega)).cp (by omega)) (by rw [hcp_k (by decide), hsI_k (by decide), hsI_k (by decide)]) (fun i hi => by rw [hcp_k (by decide), hsI_k (by decide)]; exact t23 i hi) ⟨by
          rw [hcp_k (by decide), hsI_1, if_pos ⟨rfl, rfl, rfl⟩]
          show nI (j - 1) = nI j - 1
          rw [nI_sub1 h0], fun i hi => by
          have hi' : i < j := hi
          rw [hcp_1, if_pos (by omega), hsI_k (show (23 : Nat) ≠ 19 by decide), show 0 + (i - 0) = i by omega]
          exact t23 i hi'⟩ ⟨by show j ≤ 10; omega, ht⟩
      rw [r1, bd_some]
      refine ⟨h2, rfl, r2, r3, fun i hi => by rw [r4 i (by omega), h23 i hi], ?_⟩
      show BX h2 (flB _ p.n (if b.1 < j then (j, tr) else b))
      rw [if_pos nw]; exact r5
    · rw [if_pos (lt2.mpr (by omega))]
      obtain ⟨h2, r1, r2, r3, r4, r5⟩ := loop b (hsI h 23 0 (j - 1) (nI (tr (j - 1)))) (SX.rfl.sI (by omega)) (by rw [hsI_k (by decide)]) t23 ⟨by rw [hsI_k (by decide)]; exact bx.1, fun i hi => by rw [hsI_k (by decide)]; exact bx.2 i hi⟩ bv
      rw [r1, bd_some]
      refine ⟨h2, rfl, r2, r3, fun i hi => by rw [r4 i (by omega), h23 i hi], ?_⟩
      show BX h2 (flB _ p.n (if b.1 < j then (j, tr) else b))
      rw [if_neg nw]; exact r5
