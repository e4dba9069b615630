/-! ===== fits ===== -/
def sm (f : Nat → Int32) : Nat → Int32
  | 0 => 0
  | j + 1 => sm f j + f j
theorem i_add4 (a b c d : Int32) : (a + b) + (c + d) = (a + c) + (b + d) := by
  rw [Int32.add_assoc, ← Int32.add_assoc b, Int32.add_comm b c, Int32.add_assoc c, ← Int32.add_assoc]
theorem sm_add (f g : Nat → Int32) : ∀ n, sm (fun j => f j + g j) n = sm f n + sm g n
  | 0 => rfl
  | n + 1 => by
    show sm (fun j => f j + g j) n + (f n + g n) = (sm f n + f n) + (sm g n + g n)
    rw [sm_add f g n, i_add4]
theorem sm_c {f g : Nat → Int32} : ∀ n, (∀ j, j < n → f j = g j) → sm f n = sm g n
  | 0, _ => rfl
  | n + 1, h => by
    show sm f n + f n = sm g n + g n
    rw [sm_c n (fun j hj => h j (by omega)), h n (by omega)]
theorem sm_0 {f : Nat → Int32} : ∀ n, (∀ j, j < n → f j = 0) → sm f n = 0
  | 0, _ => rfl
  | n + 1, h => by
    show sm f n + f n = 0
    rw [sm_0 n (fun j hj => h j (by omega)), h n (by omega)]
    rfl
def lk (p : PD) (s : SD) (x y K : Nat) : Nat := cnt (fun k => decide (p.co k = x) && (us p s k && bt (p.pa k) y)) K
theorem lk_le (p : PD) (s : SD) (x y K : Nat) : lk p s x y K ≤ K := cnt_le _ _
def nbq (lw : Nat) (b : Int32) (y : Nat) : Int32 := if lw = 1 then b ||| ((1 : Int32) <<< (nI y &&& 31)) else 0
/-- the evenings of l answers from x to z, where b is barred -/
def ft (p : PD) (s : SD) (z : Nat) : Nat → Nat → Int32 → Int32
  | 0, x, _ => if x = z then 1 else 0
  | l + 1, x, b => sm (fun y => if bt b y = true then 0 else nI (lk p s x y p.m) * ft p s z l y (nbq s.lw b y)) p.n
theorem ix10 (j i : Nat) : (10 : Int32) * nI j + nI i = nI (10 * j + i) := by
  show nI 10 * nI j + nI i = _
  rw [nI_mul, nI_add]
def LK (h : AH) (p : PD) (s : SD) : Prop := ∀ x y, x < p.n → y < p.n → h.1 32 0 (10 * x + y) = nI (lk p s x y p.m)
theorem x_fillL (h : AH) : f_J7_fill_53178_links 0 h = some ((), hfl h 32 0 0 100 (fun _ => 0)) := by
  unfold f_J7_fill_53178_links
  have := lp0 (fun F j => l_J7_fill_53178_links_5 F 0 (nI j) (nI 100) (hfl h 32 0 0 j (fun _ => 0))) 100 (some ((), hfl h 32 0 0 100 (fun _ => 0))) (by
    intro F j hj
    show b_J7_fill_53178_links_5 (l_J7_fill_53178_links_5 F) 0 (nI j) (nI 100) _ = l_J7_fill_53178_links_5 F 0 (nI (j + 1)) (nI 100) _
    rw [← hfl_s0]
    unfold b_J7_fill_53178_links_5
    rw [if_neg (nI_ge hj (by omega)), if_pos (inb_nI (by omega) (by omega)), nI_cl (by omega), nI_1]) (by
    intro F
    show b_J7_fill_53178_links_5 (l_J7_fill_53178_links_5 F) 0 (nI 100) (nI 100) _ = _
    unfold b_J7_fill_53178_links_5
    rw [if_pos (Int32.le_refl _)]) (by omega)
  simp only [nI_0, hfl_0] at this
  rw [this]
  rfl
theorem x_links13 {h : AH} {p : PD} {s : SD} (c : XC h p s) {K : Nat} (hK : K < p.m) (hl : ∀ x y, x < p.n → y < p.n → h.1 32 0 (10 * x + y) = nI (lk p s x y K)) : ∃ h2, l_X2_countLinks_13 FU (nI K) 0 h = some ((), h2) ∧ SX h h2 ∧ ∀ x y, x < p.n → y < p.n → h2.1 32 0 (10 * x + y) = nI (lk p s x y (K + 1)) := by
  have hn := c.1.n10
  have hm := c.1.m14
  have hcn := c.1.con hK
  have hs : ∀ x y, lk p s x y (K + 1) = lk p s x y K + (if (decide (p.co K = x) && (us p s K && bt (p.pa K) y)) = true then 1 else 0) := fun x y => rfl
  have := lpi (fun F (q : Int32 × AH) => l_X2_countLinks_13 F (nI K) q.1 q.2) p.n
    (fun j q => q.1 = nI j ∧ SX h q.2 ∧ ∀ x y, x < p.n → y < p.n → q.2.1 32 0 (10 * x + y) = nI (if y < j then lk p s x y (K + 1) else lk p s x y K))
    (fun o => ∃ h2, o = some ((), h2) ∧ SX h h2 ∧ ∀ x y, x < p.n → y < p.n → h2.1 32 0 (10 * x + y) = nI (lk p s x y (K + 1))) (by
    rintro F j ⟨i, g⟩ hj ⟨q1, q2, q3⟩
    simp only at q1 q2 q3
    subst q1
    right
    have ck := c.fr q2.k
    have hb : inb (nI K) 14 = true := inb_nI (by omega) (by omega)
    have hb2 : inb (nI (10 * p.co K + j)) 100 = true := inb_nI (by omega) (by omega)
    show ∃ t2 : Int32 × AH, _ ∧ b_X2_countLinks_13 (l_X2_countLinks_13 F) (nI K) (nI j) g = l_X2_countLinks_13 F (nI K) t2.1 t2.2
    have hv := q3 (p.co K) j hcn hj
    rw [if_neg (show ¬ j < j by omega)] at hv
    have hb3 : b_X2_countLinks_13 (l_X2_countLinks_13 F) (nI K) (nI j) g = l_X2_countLinks_13 F (nI K) (nI (j + 1)) (hsI g 32 0 (10 * p.co K + j) (nI (lk p s (p.co K) j (K + 1)))) := by
      unfold b_X2_countLinks_13
      rw [ck.n, if_neg (nI_ge hj (by omega)), x_isUsable ck hK, bd_some, if10, nI_cl (show K < 100000 by omega), ck.pa hK, x_has _ (show j < 32 by omega), bd_some, if10]
      simp only [ck.co hK, ix10, nI_cl (show 10 * p.co K + j < 100000 by omega), hv, if_pos hb, if_pos hb2, nI_1, Int32.add_zero]
      rw [hs, decide_eq_true rfl, Bool.true_and]
      cases us p s K
      · rw [if_neg (by decide), Bool.false_and, if_neg (by decide)]; rfl
      · rw [if_pos rfl, Bool.true_and]
        cases bt (p.pa K) j
        · rw [if_neg (by decide), if_neg (by decide)]; rfl
        · rw [if_pos rfl, if_pos rfl]
    rw [hb3]
    refine ⟨(nI (j + 1), hsI g 32 0 (10 * p.co K + j) (nI (lk p s (p.co K) j (K + 1)))), ⟨rfl, q2.sI (by omega), fun x y hx hy => ?_⟩, rfl⟩
    show (hsI g 32 0 (10 * p.co K + j) (nI (lk p s (p.co K) j (K + 1)))).1 32 0 (10 * x + y) = _
    rw [hsI_1]
    by_cases e : 10 * x + y = 10 * p.co K + j
    · have ex : x = p.co K := by omega
      have ey : y = j := by omega
      rw [if_pos ⟨rfl, rfl, e⟩, if_pos (by omega), ex, ey]
    · rw [if_neg (fun z => e z.2.2), q3 x y hx hy]
      congr 1
      by_cases e2 : y < j
      · rw [if_pos e2, if_pos (by omega)]
      · rw [if_neg e2]
        by_cases e3 : y = j
        · rw [if_pos (by omega), hs, decide_eq_false (by omega), Bool.false_and, if_neg (by decide), Nat.add_zero]
        · rw [if_neg (by omega)]) (by
    rintro F ⟨i, g⟩ ⟨q1, q2, q3⟩
    simp only at q1 q2 q3
    subst q1
    have ck := c.fr q2.k
    show ∃ h2, b_X2_countLinks_13 (l_X2_countLinks_13 F) (nI K) (nI p.n) g = _ ∧ _
    unfold b_X2_countLinks_13
    rw [ck.n, if_pos (Int32.le_refl _)]
    exact ⟨g, rfl, q2, fun x y hx hy => by rw [q3 x y hx hy, if_pos hy]⟩) (by omega) (0, h) ⟨rfl, SX.rfl, fun x y hx hy => by
      show h.1 32 0 (10 * x + y) = _
      rw [if_neg (by omega)]; exact hl x y hx hy⟩
  exact this
theorem x_links {h : AH} {p : PD} {s : SD} (c : XC h p s) : ∃ h2, f_X2_countLinks h = some ((), h2) ∧ SX h h2 ∧ LK h2 p s := by
  have hn := c.1.n10
  have hm := c.1.m14
  unfold f_X2_countLinks
  rw [x_fillL, bd_some]
  have s0 : SX h (hfl h 32 0 0 100 (fun _ => 0)) := SX.rfl.fl (by omega)
  have := lpi (fun F (q : Int32 × AH) => l_X2_countLinks_6 F q.1 q.2) p.m
    (fun K q => q.1 = nI K ∧ SX h q.2 ∧ ∀ x y, x < p.n → y < p.n → q.2.1 32 0 (10 * x + y) = nI (lk p s x y K))
    (fun o => ∃ h2, o = some ((), h2) ∧ SX h h2 ∧ LK h2 p s) (by
    rintro F K ⟨i, g⟩ hK ⟨q1, q2, q3⟩
    simp only at q1 q2 q3
    subst q1
    right
    have ck := c.fr q2.k
    obtain ⟨h2, r1, r2, r3⟩ := x_links13 ck hK q3
    show ∃ t2 : Int32 × AH, _ ∧ b_X2_countLinks_6 (l_X2_countLinks_6 F) (nI K) g = l_X2_countLinks_6 F t2.1 t2.2
    unfold b_X2_countLinks_6 c_X2_countLinks_57
    rw [ck.m, if_neg (nI_ge hK (by omega)), r1, bd_some, nI_1]
    exact ⟨(nI (K + 1), h2), ⟨rfl, q2.tr r2, r3⟩, rfl⟩) (by
    rintro F ⟨i, g⟩ ⟨q1, q2, q3⟩
    simp only at q1 q2 q3
    subst q1
    have ck := c.fr q2.k
    show ∃ h2, b_X2_countLinks_6 (l_X2_countLinks_6 F) (nI p.m) g = _ ∧ _
    unfold b_X2_countLinks_6
    rw [ck.m, if_pos (Int32.le_refl _)]
    exact ⟨g, rfl, q2, q3⟩) (by omega) (0, hfl h 32 0 0 100 (fun _ => 0)) ⟨rfl, s0, fun x y hx hy => by
      show (hfl h 32 0 0 100 (fun _ => 0)).1 32 0 (10 * x + y) = _
      rw [hfl_1, if_pos (by omega)]; rfl⟩
  obtain ⟨h2, a, b⟩ := this
  have a' : l_X2_countLinks_6 FU 0 (hfl h 32 0 0 100 (fun _ => 0)) = some ((), h2) := a
  rw [a']
  exact ⟨h2, rfl, b⟩
theorem x_rowsOn {h : AH} {p : PD} {s : SD} (c : XC h p s) (lk_ : LK h p s) {z : Nat} (hz : z < p.n) : ∀ l D, l < D → l < 100 → ∀ x b, x < p.n → f_X2_rowsOn D (nI x) (nI z) (nI l) b h = some (ft p s z l x b, h)
  | 0, D + 1, _, _, x, b, hx => by
    have hn := c.1.n10
    show g_X2_rowsOn (f_X2_rowsOn D) (nI x) (nI z) (nI 0) b h = _
    unfold g_X2_rowsOn ft
    have e1 : (nI x = nI z) ↔ x = z := nI_eq (by omega) (by omega)
    rw [if_neg (show ¬ (0 : Int32) < nI 0 by decide)]
    by_cases e : x = z
    · rw [if_pos (e1.mpr e), if_pos e]
    · rw [if_neg (fun q => e (e1.mp q)), if_neg e]
  | l + 1, D + 1, hD, hl, x, b, hx => by
    have hn := c.1.n10
    have hm := c.1.m14
    have hlw := c.2.1.2.2.1
    have el : (nI s.lw = 1) ↔ s.lw = 1 := nI_eq (b := 1) (by omega) (by omega)
    show g_X2_rowsOn (f_X2_rowsOn D) (nI x) (nI z) (nI (l + 1)) b h = _
    unfold g_X2_rowsOn
    rw [if_pos (show (0 : Int32) < nI (l + 1) from (nI_ltI (a := 0) (by omega) (by omega)).mpr (by omega))]
    have := lp0 (fun F j => l_X2_rowsOn_13 (f_X2_rowsOn D) F (nI x) (nI z) (nI (l + 1)) b (sm (fun y => if bt b y = true then 0 else nI (lk p s x y p.m) * ft p s z l y (nbq s.lw b y)) j) (nI j) h) p.n (some (ft p s z (l + 1) x b, h)) (by
      intro F j hj
      show b_X2_rowsOn_13 (f_X2_rowsOn D) (l_X2_rowsOn_13 (f_X2_rowsOn D) F) (nI x) (nI z) (nI (l + 1)) b _ (nI j) h = l_X2_rowsOn_13 (f_X2_rowsOn D) F (nI x) (nI z) (nI (l + 1)) b (sm (fun y => if bt b y = true then 0 else nI (lk p s x y p.m) * ft p s z l y (nbq s.lw b y)) j + (if bt b j = true then 0 else nI (lk p s x j p.m) * ft p s z l j (nbq s.lw b j))) (nI (j + 1)) h
      have hk := lk_le p s x j p.m
      have ih := fun b => x_rowsOn c lk_ hz l D (by omega) (by omega) j b hj
      unfold b_X2_rowsOn_13
      rw [c.n, if_neg (nI_ge hj (by omega)), x_has _ (by omega), bd_some, if10, ix10, if_pos (inb_nI (show 10 * x + j < 100 by omega) (by omega)), nI_cl (show 10 * x + j < 100000 by omega), lk_ x j hx hj, nI_sub1 (by omega), show l + 1 - 1 = l by omega, ih, bd_some, ih, bd_some, nI_1, c.lw]
      by_cases e : bt b j = true
      · rw [if_pos e, if_pos e, Int32.add_zero]
      · rw [if_neg e, if_neg e]
        by_cases f : lk p s x j p.m = 0
        · rw [if_pos ((nI_le0 (by omega)).mpr f), f, nI_0, Int32.zero_mul, Int32.add_zero]
        · rw [if_neg (fun q => f ((nI_le0 (by omega)).mp q))]
          unfold nbq
          by_cases g : s.lw = 1
          · rw [if_pos (el.mpr g), if_pos g]
          · rw [if_neg (fun q => g (el.mp q)), if_neg g]) (by
      intro F
      show b_X2_rowsOn_13 (f_X2_rowsOn D) (l_X2_rowsOn_13 (f_X2_rowsOn D) F) (nI x) (nI z) (nI (l + 1)) b _ (nI p.n) h = _
      unfold b_X2_rowsOn_13
      rw [c.n, if_pos (Int32.le_refl _)]
      rfl) (by omega)
    have this' : l_X2_rowsOn_13 (f_X2_rowsOn D) FU (nI x) (nI z) (nI (l + 1)) b 0 0 h = some (ft p s z (l + 1) x b, h) := this
    rw [this']
    rfl
