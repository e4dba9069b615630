/-! ===== fits, by the reference ===== -/
def askS (p : PD) (s : SD) (x : Nat) (b : Int32) (k : Nat) : Int32 := if bt (opR p s x b) k = true then p.pa k &&& (b ^^^ (-1)) else 0
theorem bt_askS {p : PD} (v : PV p) (s : SD) (x : Nat) (b : Int32) {k y : Nat} (hk : k < p.m) (hy : y < 32) : bt (askS p s x b k) y = ((decide (p.co k = x) && (us p s k && bt (p.pa k) y)) && !bt b y) := by
  unfold askS
  rw [bt_opR v, decide_eq_true hk, Bool.true_and]
  by_cases e : (decide (p.co k = x) && (us p s k && !decide (p.pa k &&& (b ^^^ (-1)) = 0))) = true
  · rw [if_pos e, bt_and, bt_not _ hy]
    rw [Bool.and_eq_true, Bool.and_eq_true] at e
    rw [e.1, e.2.1, Bool.true_and, Bool.true_and]
  · rw [if_neg e, bt_0]
    cases f : ((decide (p.co k = x) && (us p s k && bt (p.pa k) y)) && !bt b y)
    · rfl
    · exfalso
      rw [Bool.and_eq_true, Bool.and_eq_true, Bool.and_eq_true] at f
      apply e
      rw [f.1.1, f.1.2.1, Bool.true_and, Bool.true_and, Bool.not_eq_true', decide_eq_false_iff_not, bt_eq0]
      intro z
      have := z y hy
      rw [bt_and, bt_not _ hy, f.1.2.2, f.2] at this
      contradiction
theorem ft_eq {p : PD} (v : PV p) (s : SD) (x : Nat) (b : Int32) (g : Nat → Int32) : ∀ K, K ≤ p.m → sm (fun k => sm (fun y => if bt (askS p s x b k) y = true then g y else 0) p.n) K = sm (fun y => if bt b y = true then 0 else nI (lk p s x y K) * g y) p.n
  | 0, _ => by
    show (0 : Int32) = _
    rw [sm_0]
    intro y _
    split
    · rfl
    · show nI 0 * g y = 0
      rw [nI_0, Int32.zero_mul]
  | K + 1, hK => by
    have hn := v.n10
    show sm (fun k => sm (fun y => if bt (askS p s x b k) y = true then g y else 0) p.n) K + sm (fun y => if bt (askS p s x b K) y = true then g y else 0) p.n = _
    rw [ft_eq v s x b g K (by omega), ← sm_add]
    apply sm_c
    intro y hy
    rw [bt_askS v s x b (by omega) (by omega)]
    have hs : lk p s x y (K + 1) = lk p s x y K + (if (decide (p.co K = x) && (us p s K && bt (p.pa K) y)) = true then 1 else 0) := rfl
    rw [hs]
    cases bt b y
    · rw [Bool.not_false, Bool.and_true, if_neg (c := false = true) (by decide), if_neg (c := false = true) (by decide)]
      by_cases f : (decide (p.co K = x) && (us p s K && bt (p.pa K) y)) = true
      · rw [if_pos f, if_pos f, ← nI_1, Int32.add_mul, Int32.one_mul]
      · rw [if_neg f, if_neg f, Int32.add_zero]; rfl
    · rw [if_pos rfl, if_pos rfl, Bool.not_true, Bool.and_false, if_neg (by decide)]; rfl
theorem tb_c {a b : Nat → Nat} : ∀ j, (∀ i, i < j → a i = b i) → tb a j = tb b j
  | 0, _ => rfl
  | j + 1, h => by
    show tb a j ||| _ = tb b j ||| _
    rw [tb_c j (fun i hi => h i (by omega)), h j (by omega)]
def up (tr : Nat → Nat) (j y : Nat) : Nat → Nat := fun i => if i = j then y else tr i
theorem bq_up (lw : Nat) (tr : Nat → Nat) (j y : Nat) : bq lw (up tr j y) (j + 1) = nbq lw (bq lw tr j) y := by
  unfold bq nbq
  by_cases e : lw = 1
  · rw [if_pos e, if_pos e, if_pos e]
    show tb (up tr j y) j ||| ((1 : Int32) <<< (nI (up tr j y j) &&& 31)) = _
    rw [tb_c (a := up tr j y) (b := tr) j (fun i hi => if_neg (by omega))]
    unfold up
    rw [if_pos rfl]
  · rw [if_neg e, if_neg e]
/-- tried agrees up to j -/
def TJ (h g : AH) (j : Nat) : Prop := SM h g ∧ ∀ i, i < j → g.1 57 0 i = h.1 57 0 i
theorem TJ.tr {h g k : AH} {j i : Nat} (a : TJ h g j) (b : TJ g k i) (e : j ≤ i) : TJ h k j := ⟨a.1.tr b.1, fun q hq => (b.2 q (by omega)).trans (a.2 q hq)⟩
theorem TJ.ta {h g : AH} {p : PD} {tr : Nat → Nat} {j : Nat} (a : TJ h g j) (t : TA h 57 p tr j) : TA g 57 p tr j := fun i hi => ⟨(a.2 i hi).trans (t i hi).1, (t i hi).2⟩
theorem m_fits {p : PD} {s : SD} {z : Nat} (hz : z < p.n) : ∀ l D, l < D → ∀ j tr h, 0 < j → j + l ≤ 31 → MC h p s → TA h 57 p tr j → ∃ h2, f_X12_fitsFrom D (nI j) (nI l) (nI z) h = some (ft p s z l (tr (j - 1)) (bq s.lw tr j), h2) ∧ TJ h h2 j
  | 0, D + 1, _, j, tr, h, h0, hj, c, t => by
    have hn := c.1.n10
    show ∃ h2, g_X12_fitsFrom (f_X12_fitsFrom D) (nI j) (nI 0) (nI z) h = _ ∧ _
    have tt := t (j - 1) (by omega)
    unfold g_X12_fitsFrom ft
    have e1 : (nI (tr (j - 1)) = nI z) ↔ tr (j - 1) = z := nI_eq (by omega) (by omega)
    rw [if_pos (show nI 0 = (0 : Int32) from rfl), nI_sub1 h0, if_pos (inb_nI (by omega) (by omega)), nI_cl (by omega), tt.1]
    refine ⟨h, ?_, SM.rfl, fun _ _ => rfl⟩
    by_cases e : tr (j - 1) = z
    · rw [if_pos (e1.mpr e), if_pos e]
    · rw [if_neg (fun q => e (e1.mp q)), if_neg e]
  | l + 1, D + 1, hD, j, tr, h, h0, hj, c, t => by
    have hn := c.1.n10
    have hm := c.1.m14
    show ∃ h2, g_X12_fitsFrom (f_X12_fitsFrom D) (nI j) (nI (l + 1)) (nI z) h = _ ∧ _
    unfold g_X12_fitsFrom
    rw [if_neg (fun q => by have := (nI_eq0 (show l + 1 < 100000 by omega)).mp q; omega), m_mayAnswerT c t h0 (by omega), bd_some]
    generalize hx : tr (j - 1) = x
    generalize hb : bq s.lw tr j = b
    -- one reason: all its parts
    have inner : ∀ (A ask k4 k6 : Int32) (g : AH), TJ h g j → ∃ g2, l_X12_fitsFrom_43 (f_X12_fitsFrom D) FU (nI j) (nI (l + 1)) (nI z) k4 A k6 ask 0 g = some (A + sm (fun y => if bt ask y = true then ft p s z l y (nbq s.lw b y) else 0) p.n, g2) ∧ TJ h g2 j := by
      intro A ask k4 k6 g hg
      have := lpi (fun F (q : Int32 × Int32 × AH) => l_X12_fitsFrom_43 (f_X12_fitsFrom D) F (nI j) (nI (l + 1)) (nI z) k4 q.1 k6 ask q.2.1 q.2.2) p.n
        (fun y q => q.1 = A + sm (fun y => if bt ask y = true then ft p s z l y (nbq s.lw b y) else 0) y ∧ q.2.1 = nI y ∧ TJ h q.2.2 j)
        (fun o => ∃ g2, o = some (A + sm (fun y => if bt ask y = true then ft p s z l y (nbq s.lw b y) else 0) p.n, g2) ∧ TJ h g2 j) (by
        rintro F y ⟨a, i, g1⟩ hy ⟨q1, q2, q3⟩
        simp only at q1 q2 q3
        subst q1 q2
        right
        have ck := c.fr q3.1.k
        have hs : A + sm (fun y => if bt ask y = true then ft p s z l y (nbq s.lw b y) else 0) (y + 1) = (A + sm (fun y => if bt ask y = true then ft p s z l y (nbq s.lw b y) else 0) y) + (if bt ask y = true then ft p s z l y (nbq s.lw b y) else 0) := by
          rw [Int32.add_assoc]; rfl
        show ∃ t2 : Int32 × Int32 × AH, _ ∧ b_X12_fitsFrom_43 (f_X12_fitsFrom D) (l_X12_fitsFrom_43 (f_X12_fitsFrom D) F) (nI j) (nI (l + 1)) (nI z) k4 _ k6 ask (nI y) g1 = l_X12_fitsFrom_43 (f_X12_fitsFrom D) F (nI j) (nI (l + 1)) (nI z) k4 t2.1 k6 ask t2.2.1 t2.2.2
        unfold b_X12_fitsFrom_43
        rw [ck.n, if_neg (nI_ge hy (by omega)), m_has _ (by omega), bd_some, if10, if_pos (inb_nI (show j < 32 by omega) (by omega)), nI_cl (show j < 100000 by omega), nI_1, nI_sub1 (by omega), show l + 1 - 1 = l by omega, nI_1]
        by_cases e : bt ask y = true
        · rw [if_pos e]
          have sc : SM g1 (hsI g1 57 0 j (nI y)) := SM.rfl.sI (by omega)
          have hsc : TJ g1 (hsI g1 57 0 j (nI y)) j := ⟨sc, fun i hi => by rw [hsI_1, if_neg (by omega)]⟩
          have tj := q3.tr hsc (Nat.le_refl _)
          have ta2 : TA (hsI g1 57 0 j (nI y)) 57 p (up tr j y) (j + 1) := fun i hi => by
            unfold up
            by_cases ei : i = j
            · rw [if_pos ei, hsI_1, if_pos ⟨rfl, rfl, ei⟩]; exact ⟨rfl, hy⟩
            · rw [if_neg ei]
              exact (tj.ta t) i (by omega)
          obtain ⟨h2, r1, r2⟩ := m_fits hz l D (by omega) (j + 1) (up tr j y) (hsI g1 57 0 j (nI y)) (by omega) (by omega) (c.fr tj.1.k) ta2
          rw [bq_up, hb, show j + 1 - 1 = j by omega] at r1
          have hup : up tr j y j = y := if_pos rfl
          rw [hup] at r1
          rw [r1, bd_some]
          refine ⟨(A + sm (fun y => if bt ask y = true then ft p s z l y (nbq s.lw b y) else 0) (y + 1), nI (y + 1), h2), ⟨rfl, rfl, tj.tr r2 (by omega)⟩, ?_⟩
          rw [hs, if_pos e]
        · rw [if_neg e]
          refine ⟨(A + sm (fun y => if bt ask y = true then ft p s z l y (nbq s.lw b y) else 0) (y + 1), nI (y + 1), g1), ⟨rfl, rfl, q3⟩, ?_⟩
          rw [hs, if_neg e, Int32.add_zero]) (by
        rintro F ⟨a, i, g1⟩ ⟨q1, q2, q3⟩
        simp only at q1 q2 q3
        subst q1 q2
        have ck := c.fr q3.1.k
        show ∃ g2, b_X12_fitsFrom_43 (f_X12_fitsFrom D) (l_X12_fitsFrom_43 (f_X12_fitsFrom D) F) (nI j) (nI (l + 1)) (nI z) k4 _ k6 ask (nI p.n) g1 = _ ∧ _
        unfold b_X12_fitsFrom_43
        rw [ck.n, if_pos (Int32.le_refl _)]
        exact ⟨g1, rfl, q3⟩) (by omega) (A, 0, g) ⟨(Int32.add_zero A).symm, rfl, hg⟩
      exact this
    have := lpi (fun F (q : Int32 × Int32 × AH) => l_X12_fitsFrom_24 (f_X12_fitsFrom D) F (nI j) (nI (l + 1)) (nI z) (opR p s x b) q.1 q.2.1 q.2.2) p.m
      (fun k q => q.1 = sm (fun k => sm (fun y => if bt (askS p s x b k) y = true then ft p s z l y (nbq s.lw b y) else 0) p.n) k ∧ q.2.1 = nI k ∧ TJ h q.2.2 j)
      (fun o => ∃ g2, o = some (ft p s z (l + 1) x b, g2) ∧ TJ h g2 j) (by
      rintro F k ⟨a, i, g1⟩ hk ⟨q1, q2, q3⟩
      simp only at q1 q2 q3
      subst q1 q2
      right
      have ck := c.fr q3.1.k
      show ∃ t2 : Int32 × Int32 × AH, _ ∧ b_X12_fitsFrom_24 (f_X12_fitsFrom D) (l_X12_fitsFrom_24 (f_X12_fitsFrom D) F) (nI j) (nI (l + 1)) (nI z) (opR p s x b) (sm (fun k => sm (fun y => if bt (askS p s x b k) y = true then ft p s z l y (nbq s.lw b y) else 0) p.n) k) (nI k) g1 = l_X12_fitsFrom_24 (f_X12_fitsFrom D) F (nI j) (nI (l + 1)) (nI z) (opR p s x b) t2.1 t2.2.1 t2.2.2
      unfold b_X12_fitsFrom_24 c_X12_fitsFrom_70
      rw [ck.m, if_neg (nI_ge hk (by omega)), m_has _ (by omega), bd_some, if10, m_mayAskT ck (q3.ta t) (by omega) hk, bd_some, hb]
      obtain ⟨g2, r1, r2⟩ := inner (sm (fun k => sm (fun y => if bt (askS p s x b k) y = true then ft p s z l y (nbq s.lw b y) else 0) p.n) k) (askS p s x b k) (opR p s x b) (nI k) g1 q3
      refine ⟨(sm (fun k => sm (fun y => if bt (askS p s x b k) y = true then ft p s z l y (nbq s.lw b y) else 0) p.n) (k + 1), nI (k + 1), g2), ⟨rfl, rfl, r2⟩, ?_⟩
      by_cases e : bt (opR p s x b) k = true
      · rw [show askS p s x b k = p.pa k &&& (b ^^^ (-1)) from if_pos e] at r1
        rw [if_pos e, r1, bd_some, nI_1]
        show l_X12_fitsFrom_24 (f_X12_fitsFrom D) F (nI j) (nI (l + 1)) (nI z) (opR p s x b) _ (nI (k + 1)) g2 = l_X12_fitsFrom_24 (f_X12_fitsFrom D) F (nI j) (nI (l + 1)) (nI z) (opR p s x b) (_ + sm (fun y => if bt (askS p s x b k) y = true then ft p s z l y (nbq s.lw b y) else 0) p.n) (nI (k + 1)) g2
        rw [show askS p s x b k = p.pa k &&& (b ^^^ (-1)) from if_pos e]
      · rw [show askS p s x b k = 0 from if_neg e] at r1
        rw [if_neg e, r1, bd_some, nI_1]
        show l_X12_fitsFrom_24 (f_X12_fitsFrom D) F (nI j) (nI (l + 1)) (nI z) (opR p s x b) _ (nI (k + 1)) g2 = l_X12_fitsFrom_24 (f_X12_fitsFrom D) F (nI j) (nI (l + 1)) (nI z) (opR p s x b) (_ + sm (fun y => if bt (askS p s x b k) y = true then ft p s z l y (nbq s.lw b y) else 0) p.n) (nI (k + 1)) g2
        rw [show askS p s x b k = 0 from if_neg e]) (by
      rintro F ⟨a, i, g1⟩ ⟨q1, q2, q3⟩
      simp only at q1 q2 q3
      subst q1 q2
      have ck := c.fr q3.1.k
      show ∃ g2, b_X12_fitsFrom_24 (f_X12_fitsFrom D) (l_X12_fitsFrom_24 (f_X12_fitsFrom D) F) (nI j) (nI (l + 1)) (nI z) (opR p s x b) _ (nI p.m) g1 = _ ∧ _
      unfold b_X12_fitsFrom_24
      rw [ck.m, if_pos (Int32.le_refl _), ft_eq c.1 s x b _ p.m (Nat.le_refl _)]
      exact ⟨g1, rfl, q3⟩) (by omega) (0, 0, h) ⟨rfl, rfl, SM.rfl, fun _ _ => rfl⟩
    obtain ⟨g2, r1, r2⟩ := this
    have r1' : l_X12_fitsFrom_24 (f_X12_fitsFrom D) FU (nI j) (nI (l + 1)) (nI z) (opR p s x b) 0 0 h = some (ft p s z (l + 1) x b, g2) := r1
    rw [r1', bd_some]
    exact ⟨g2, rfl, r2⟩
theorem m_in05 {N : Nat} (hN : N ≤ 1000) (x : Int32) (h : AH) : f_X12_in x 0 (nI N) h = some (if inb x (N + 1) = true then 1 else 0, h) := by
  rw [m_in]
  congr 2
  have e0 : (0 : Int32).toInt = 0 := rfl
  rw [e0, nI_toInt (by omega)]
  by_cases hb : inb x (N + 1) = true
  · have := inb_iff.mp hb
    rw [if_pos hb, if_pos (by omega)]
  · have : ¬ (0 ≤ x.toInt ∧ x.toInt < ((N + 1 : Nat) : Int)) := fun z => hb (inb_iff.mpr z)
    rw [if_neg hb, if_neg (by omega)]
theorem ifr2 {α : Type} {n : Nat} (hn : n ≤ 100000) (x : Int32) (a b : α) : (if x < 0 then a else if x ≤ nI n then b else a) = if inb x (n + 1) = true then b else a := by
  have e0 : (0 : Int32).toInt = 0 := rfl
  by_cases hb : inb x (n + 1) = true
  · have h2 := inb_iff.mp hb
    rw [if_neg (by rw [i_lt, e0]; omega), if_pos (by rw [i_le, nI_toInt (by omega)]; omega), if_pos hb]
  · have h2 : ¬ (0 ≤ x.toInt ∧ x.toInt < ((n + 1 : Nat) : Int)) := fun z => hb (inb_iff.mpr z)
    rw [if_neg hb]
    by_cases c1 : x < 0
    · rw [if_pos c1]
    · rw [if_neg c1, if_neg]
      rw [i_lt, e0] at c1
      rw [i_le, nI_toInt (by omega)]
      omega
theorem e_fits : E3 Rel f_X11_fits f_X12_fits := by
  intro a a2 a3 hx hm h
  show OR _ _
  obtain ⟨b, p, s, d⟩ := h
  have h : Rel hx hm := ⟨b, p, s, d⟩
  have hn := d.1.n10
  have hlw := d.2.1.2.2.1
  unfold f_X11_fits f_X12_fits
  rw [x_isClaim d.x, m_isClaim d.m, bd_some, bd_some, if10, if10]
  by_cases hb : inb a p.n = true
  rotate_left
  · rw [if_neg hb, if_neg hb]; exact OR.same h rfl rfl
  obtain ⟨x, hxn, rfl⟩ := inb_ex hb
  rw [if_pos hb, if_pos hb, x_isClaim d.x, m_isClaim d.m, bd_some, bd_some, if10, if10]
  by_cases hb2 : inb a2 p.n = true
  rotate_left
  · rw [if_neg hb2, if_neg hb2]; exact OR.same h rfl rfl
  obtain ⟨z, hzn, rfl⟩ := inb_ex hb2
  rw [if_pos hb2, if_pos hb2, show (5 : Int32) = nI 5 from rfl, m_in05 (by omega), bd_some, if10, ifr2 (by omega)]
  by_cases hb3 : inb a3 (5 + 1) = true
  rotate_left
  · rw [if_neg hb3, if_neg hb3]; exact OR.same h rfl rfl
  obtain ⟨l, hl, rfl⟩ := inb_ex hb3
  rw [if_pos hb3, if_pos hb3]
  unfold f_X2_rowsBetween
  obtain ⟨h2, r1, r2, r3⟩ := x_links d.x
  have c2 := d.x.fr r2.k
  have el : (nI s.lw = 1) ↔ s.lw = 1 := nI_eq (b := 1) (by omega) (by omega)
  rw [r1, bd_some, x_rowsOn c2 r3 hzn l 12 (by omega) (by omega) x _ hxn, bd_some, x_rowsOn c2 r3 hzn l 12 (by omega) (by omega) x _ hxn, bd_some, c2.lw]
  have s0 : SM hm (hsI hm 57 0 0 (nI x)) := SM.rfl.sI (by omega)
  have ta : TA (hsI hm 57 0 0 (nI x)) 57 p (fun _ => x) 1 := fun i hi => ⟨by rw [hsI_1, if_pos ⟨rfl, rfl, by omega⟩], hxn⟩
  obtain ⟨hm2, m1, m2⟩ := m_fits hzn l 12 (by omega) 1 (fun _ => x) _ (by omega) (by omega) (d.m.fr s0.k) ta
  have i0 : (0 : Int32).toNatClampNeg = 0 := rfl
  have m1' : f_X12_fitsFrom 12 1 (nI l) (nI z) (hsI hm 57 0 0 (nI x)) = some (ft p s z l x (bq s.lw (fun _ => x) 1), hm2) := m1
  rw [i0, m1', bd_some]
  have hbq : bq s.lw (fun _ => x) 1 = if s.lw = 1 then (1 : Int32) <<< (nI x &&& 31) else 0 := by
    unfold bq
    have : tb (fun _ => x) 1 = (1 : Int32) <<< (nI x &&& 31) := by
      show (0 : Int32) ||| ((1 : Int32) <<< (nI x &&& 31)) = _
      apply bt_ext
      intro i _
      rw [bt_or, bt_0, Bool.false_or]
    rw [this]
  rw [hbq]
  by_cases e : s.lw = 1
  · rw [if_pos (el.mpr e), if_pos e]
    exact OR.same (h.sc r2 (s0.tr m2.1)) rfl rfl
  · rw [if_neg (fun q => e (el.mp q)), if_neg e]
    exact OR.same (h.sc r2 (s0.tr m2.1)) rfl rfl
