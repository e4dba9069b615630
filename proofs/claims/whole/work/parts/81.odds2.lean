theorem SX.cpL {a b : AH} (h : SX a b) {k0 i0 k i sp dp n : Nat} (hk : k ≠ 0) : SX a (hcpL b k0 i0 k i sp dp n) := ⟨h.1, by
  rw [← h.2]
  funext x y
  show (if 0 = k ∧ _ then _ else _) = _
  rw [if_neg (fun z => hk z.1.symm)]⟩
theorem x_sh8 {h : AH} {p : PD} {s : SD} (c : XC h p s) (x1 x2 : Int32) (x4 : Int64) : ∃ h2, l_X2_shareOfLoss_8 FU x1 x2 (LSt p s) x4 0 h = some ((), h2) ∧ SX h h2 ∧ SL h2 p 30 (Sh p s 0) := by
  have hn := c.1.n10
  have := lpi (fun F (q : Int32 × AH) => l_X2_shareOfLoss_8 F x1 x2 (LSt p s) x4 q.1 q.2) p.n
    (fun j q => q.1 = nI j ∧ SX h q.2 ∧ ∀ y, y < j → q.2.2 30 0 y = nL (Sh p s 0 y))
    (fun o => ∃ h2, o = some ((), h2) ∧ SX h h2 ∧ SL h2 p 30 (Sh p s 0)) (by
    rintro F j ⟨i, g⟩ hj ⟨q1, q2, q3⟩
    simp only at q1 q2 q3
    subst q1
    right
    have ck := c.fr q2.k
    show ∃ t2 : Int32 × AH, _ ∧ b_X2_shareOfLoss_8 (l_X2_shareOfLoss_8 F) x1 x2 (LSt p s) x4 (nI j) g = l_X2_shareOfLoss_8 F x1 x2 (LSt p s) x4 t2.1 t2.2
    unfold b_X2_shareOfLoss_8
    rw [ck.n, if_neg (nI_ge hj (by omega)), x_bit _ (by omega), bd_some, if_pos (inb_nI (by omega) (by omega)), nI_cl (by omega), nI_1]
    refine ⟨(nI (j + 1), _), ⟨rfl, q2.sL (by omega), fun y hy => ?_⟩, rfl⟩
    show (hsL g 30 0 j _).2 30 0 y = _
    rw [hsL_2]
    by_cases e : y = j
    · rw [if_pos ⟨rfl, rfl, e⟩, e]
      show _ = nL (if bt (LSt p s) j = true then 1 else 0)
      split <;> rfl
    · rw [if_neg (fun z => e z.2.2)]
      exact q3 y (by omega)) (by
    rintro F ⟨i, g⟩ ⟨q1, q2, q3⟩
    simp only at q1 q2 q3
    subst q1
    have ck := c.fr q2.k
    show ∃ h2, b_X2_shareOfLoss_8 (l_X2_shareOfLoss_8 F) x1 x2 (LSt p s) x4 (nI p.n) g = _ ∧ _
    unfold b_X2_shareOfLoss_8
    rw [ck.n, if_pos (Int32.le_refl _)]
    exact ⟨g, rfl, q2, q3⟩) (by omega) (0, h) ⟨rfl, SX.rfl, fun y hy => by omega⟩
  exact this
theorem x_sh42 {h : AH} {p : PD} {s : SD} (c : XC h p s) (x1 x2 x6 : Int32) {l : Nat} (hf : SL h p 31 (Sh p s l)) : ∃ h2, l_X2_shareOfLoss_42 FU x1 x2 (LSt p s) (nL (72 ^ (l + 1))) x6 0 h = some ((), h2) ∧ SX h h2 ∧ SL h2 p 30 (Sh p s (l + 1)) := by
  have hn := c.1.n10
  have := lpi (fun F (q : Int32 × AH) => l_X2_shareOfLoss_42 F x1 x2 (LSt p s) (nL (72 ^ (l + 1))) x6 q.1 q.2) p.n
    (fun j q => q.1 = nI j ∧ SX h q.2 ∧ q.2.2 31 = h.2 31 ∧ ∀ y, y < j → q.2.2 30 0 y = nL (Sh p s (l + 1) y))
    (fun o => ∃ h2, o = some ((), h2) ∧ SX h h2 ∧ SL h2 p 30 (Sh p s (l + 1))) (by
    rintro F j ⟨i, g⟩ hj ⟨q1, q2, q3, q4⟩
    simp only at q1 q2 q3 q4
    subst q1
    right
    have ck := c.fr q2.k
    have hfg : SL g p 31 (Sh p s l) := fun y hy => by rw [q3]; exact hf y hy
    show ∃ t2 : Int32 × AH, _ ∧ b_X2_shareOfLoss_42 (l_X2_shareOfLoss_42 F) x1 x2 (LSt p s) (nL (72 ^ (l + 1))) x6 (nI j) g = l_X2_shareOfLoss_42 F x1 x2 (LSt p s) (nL (72 ^ (l + 1))) x6 t2.1 t2.2
    have hb : b_X2_shareOfLoss_42 (l_X2_shareOfLoss_42 F) x1 x2 (LSt p s) (nL (72 ^ (l + 1))) x6 (nI j) g = l_X2_shareOfLoss_42 F x1 x2 (LSt p s) (nL (72 ^ (l + 1))) x6 (nI (j + 1)) (hsL g 30 0 j (nL (Sh p s (l + 1) j))) := by
      unfold b_X2_shareOfLoss_42
      rw [ck.n, if_neg (nI_ge hj (by omega)), x_has _ (by omega), bd_some, if10, x_byReasons ck hfg (by omega), bd_some, if_pos (inb_nI (by omega) (by omega)), if_pos (inb_nI (by omega) (by omega)), nI_cl (by omega), nI_1]
      show _ = l_X2_shareOfLoss_42 F x1 x2 (LSt p s) (nL (72 ^ (l + 1))) x6 (nI (j + 1)) (hsL g 30 0 j (nL (if bt (LSt p s) j = true then 72 ^ (l + 1) else byR p s (Sh p s l) j p.m)))
      by_cases e : bt (LSt p s) j = true
      · rw [if_pos e, if_pos e]
      · rw [if_neg e, if_neg e]
    rw [hb]
    refine ⟨(nI (j + 1), hsL g 30 0 j (nL (Sh p s (l + 1) j))), ⟨rfl, q2.sL (by omega), ?_, fun y hy => ?_⟩, rfl⟩
    · show (hsL g 30 0 j (nL (Sh p s (l + 1) j))).2 31 = _
      rw [← q3]
      funext a b
      rw [hsL_2, if_neg (by omega)]
    · show (hsL g 30 0 j (nL (Sh p s (l + 1) j))).2 30 0 y = _
      rw [hsL_2]
      by_cases e : y = j
      · rw [if_pos ⟨rfl, rfl, e⟩, e]
      · rw [if_neg (fun z => e z.2.2)]
        exact q4 y (by omega)) (by
    rintro F ⟨i, g⟩ ⟨q1, q2, q3, q4⟩
    simp only at q1 q2 q3 q4
    subst q1
    have ck := c.fr q2.k
    show ∃ h2, b_X2_shareOfLoss_42 (l_X2_shareOfLoss_42 F) x1 x2 (LSt p s) (nL (72 ^ (l + 1))) x6 (nI p.n) g = _ ∧ _
    unfold b_X2_shareOfLoss_42
    rw [ck.n, if_pos (Int32.le_refl _)]
    exact ⟨g, rfl, q2, q4⟩) (by omega) (0, h) ⟨rfl, SX.rfl, rfl, fun y hy => by omega⟩
  exact this
theorem x_share {h : AH} {p : PD} {s : SD} (c : XC h p s) {x L : Nat} (hx : x < p.n) (hL : L ≤ 6) : ∃ h2, f_X2_shareOfLoss (nI x) (nI L) h = some (nL (Sh p s L x), h2) ∧ SX h h2 := by
  have hn := c.1.n10
  unfold f_X2_shareOfLoss
  obtain ⟨h1, r1, r2, r3⟩ := x_sh8 c (nI x) (nI L) 1
  rw [x_lossBits c, bd_some, r1, bd_some]
  unfold c_X2_shareOfLoss_23
  have := lpi (fun F (q : Int64 × Int32 × AH) => l_X2_shareOfLoss_25 F (nI x) (nI L) (LSt p s) q.1 q.2.1 q.2.2) L
    (fun j q => q.1 = nL (72 ^ j) ∧ q.2.1 = nI j ∧ SX h q.2.2 ∧ SL q.2.2 p 30 (Sh p s j))
    (fun o => ∃ h2, o = some ((), h2) ∧ SX h h2 ∧ SL h2 p 30 (Sh p s L)) (by
    rintro F j ⟨w, i, g⟩ hj ⟨q1, q2, q3, q4⟩
    simp only at q1 q2 q3 q4
    subst q1 q2
    right
    show ∃ t2 : Int64 × Int32 × AH, _ ∧ b_X2_shareOfLoss_25 (l_X2_shareOfLoss_25 F) (nI x) (nI L) (LSt p s) (nL (72 ^ j)) (nI j) g = l_X2_shareOfLoss_25 F (nI x) (nI L) (LSt p s) t2.1 t2.2.1 t2.2.2
    have sc : SX h (hcpL g 30 0 31 0 0 0 10) := q3.cpL (by omega)
    obtain ⟨g2, z1, z2, z3⟩ := x_sh42 (c.fr sc.k) (nI x) (nI L) (nI j) (l := j) (fun y hy => by
      show (if 31 = 31 ∧ 0 = 0 ∧ 0 ≤ y ∧ y < 0 + 10 then g.2 30 0 (0 + (y - 0)) else _) = _
      rw [if_pos (by omega), show 0 + (y - 0) = y by omega]
      exact q4 y hy)
    have w2 : nL (72 ^ j) * (72 : Int64) = nL (72 ^ (j + 1)) := by
      show nL (72 ^ j) * nL 72 = _
      rw [nL_mul, Nat.pow_succ]
    have i0 : (0 : Int32).toNatClampNeg = 0 := rfl
    have i10 : (10 : Int32).toNatClampNeg = 10 := rfl
    unfold b_X2_shareOfLoss_25 c_X2_shareOfLoss_62
    rw [if_neg (nI_ge hj (by omega)), w2, i0, i10, z1, bd_some, nI_1]
    exact ⟨(nL (72 ^ (j + 1)), nI (j + 1), g2), ⟨rfl, rfl, sc.tr z2, z3⟩, rfl⟩) (by
    rintro F ⟨w, i, g⟩ ⟨q1, q2, q3, q4⟩
    simp only at q1 q2 q3 q4
    subst q1 q2
    show ∃ h2, b_X2_shareOfLoss_25 (l_X2_shareOfLoss_25 F) (nI x) (nI L) (LSt p s) (nL (72 ^ L)) (nI L) g = _ ∧ _
    unfold b_X2_shareOfLoss_25
    rw [if_pos (Int32.le_refl _)]
    exact ⟨g, rfl, q3, q4⟩) (by omega) (1, 0, h1) ⟨rfl, rfl, r2, r3⟩
  obtain ⟨h2, a, b, d⟩ := this
  have a' : l_X2_shareOfLoss_25 FU (nI x) (nI L) (LSt p s) 1 0 h1 = some ((), h2) := a
  rw [a', bd_some]
  unfold c_X2_shareOfLoss_64
  rw [if_pos (inb_nI (by omega) (by omega)), nI_cl (by omega), d x hx]
  exact ⟨h2, rfl, b⟩
theorem UF_end {p : PD} (v : PV p) (s : SD) {x : Nat} (h : isE p x = true) (k : Nat) : bt (UF p s x) k = false := by
  rw [bt_UF v]
  by_cases hk : k < p.m
  · by_cases e : p.co k = x
    · have h1 := (v.2.2.2.1 k hk).2.1
      have h2 := (v.2.2.2.1 k hk).2.2.1
      rw [e] at h1 h2
      unfold isE at h
      simp [h1, h2] at h
    · simp [e]
  · simp [hk]
theorem sN_0 {f : Nat → Nat} : ∀ n, (∀ j, j < n → f j = 0) → sN f n = 0
  | 0, _ => rfl
  | n + 1, h => by
    show sN f n + f n = 0
    rw [sN_0 n (fun j hj => h j (by omega)), h n (by omega)]
theorem m_lossFrom {h : AH} {p : PD} {s : SD} (c : MC h p s) : ∀ l D, l < D → l < 100 → ∀ x w, x < p.n → 72 ^ l * w < 2 ^ 62 → f_X12_lossFrom D (nI x) (nI l) (nL (72 ^ l * w)) h = some (nL (w * Sh p s l x), h)
  | l, D + 1, hD, h100, x, w, hx, hw => by
    have hn := c.1.n10
    have hm := c.1.m14
    show g_X12_lossFrom (f_X12_lossFrom D) (nI x) (nI l) (nL (72 ^ l * w)) h = _
    unfold g_X12_lossFrom
    have bL := bt_LSt c.1 s hx
    rw [m_isAtLoss c hx, bd_some, if10, m_isEnd c hx, bd_some, if10]
    by_cases a : atL p s x = true
    · rw [if_pos a]
      have : Sh p s l x = 72 ^ l := by
        cases l with
        | zero => show (if bt (LSt p s) x = true then 1 else 0) = 1; rw [bL, if_pos a]
        | succ l => show (if bt (LSt p s) x = true then 72 ^ (l + 1) else _) = _; rw [bL, if_pos a]
      rw [this, Nat.mul_comm]
    · rw [if_neg a]
      by_cases e : isE p x = true
      · rw [if_pos e]
        have : Sh p s l x = 0 := by
          cases l with
          | zero => show (if bt (LSt p s) x = true then 1 else 0) = 0; rw [bL, if_neg a]
          | succ l =>
            show (if bt (LSt p s) x = true then 72 ^ (l + 1) else _) = 0
            rw [bL, if_neg a]
            apply sN_0
            intro k _
            rw [if_neg (by rw [UF_end c.1 s e]; decide)]
        rw [this, Nat.mul_zero]; rfl
      · rw [if_neg e]
        cases l with
        | zero =>
          rw [if_pos (show nI 0 = (0 : Int32) from rfl)]
          have : Sh p s 0 x = 0 := by show (if bt (LSt p s) x = true then 1 else 0) = 0; rw [bL, if_neg a]
          rw [this, Nat.mul_zero]; rfl
        | succ l =>
          rw [if_neg (fun q => by have := (nI_eq0 (show l + 1 < 100000 by omega)).mp q; omega), m_usableFor c (by omega), bd_some]
          have hSh : Sh p s (l + 1) x = byR p s (Sh p s l) x p.m := by
            show (if bt (LSt p s) x = true then 72 ^ (l + 1) else _) = _
            rw [bL, if_neg a]; rfl
          rw [hSh]
          have inner : ∀ k, k < p.m → ∀ A : Nat, l_X12_lossFrom_28 (f_X12_lossFrom D) FU (nI (l + 1)) (nL (72 ^ (l + 1) * w)) (UF p s x) (nL A) (nI k) 0 h = some (nL (A + w * (if bt (UF p s x) k = true then 72 / (uc p s x * pk p k) * sN (fun z => if bt (p.pa k) z = true then Sh p s l z else 0) p.n else 0)), h) := by
            intro k hk A
            have hp := pk3 c.1 hk
            have hu4 := uc4 c.1 s x
            have := lp0 (fun F j => l_X12_lossFrom_28 (f_X12_lossFrom D) F (nI (l + 1)) (nL (72 ^ (l + 1) * w)) (UF p s x) (nL (A + w * (if bt (UF p s x) k = true then 72 / (uc p s x * pk p k) * sN (fun z => if bt (p.pa k) z = true then Sh p s l z else 0) j else 0))) (nI k) (nI j) h) p.n (some (nL (A + w * (if bt (UF p s x) k = true then 72 / (uc p s x * pk p k) * sN (fun z => if bt (p.pa k) z = true then Sh p s l z else 0) p.n else 0)), h)) (by
              intro F j hj
              show b_X12_lossFrom_28 (f_X12_lossFrom D) (l_X12_lossFrom_28 (f_X12_lossFrom D) F) (nI (l + 1)) (nL (72 ^ (l + 1) * w)) (UF p s x) _ (nI k) (nI j) h = l_X12_lossFrom_28 (f_X12_lossFrom D) F (nI (l + 1)) (nL (72 ^ (l + 1) * w)) (UF p s x) (nL (A + w * (if bt (UF p s x) k = true then 72 / (uc p s x * pk p k) * (sN (fun z => if bt (p.pa k) z = true then Sh p s l z else 0) j + (if bt (p.pa k) j = true then Sh p s l j else 0)) else 0))) (nI k) (nI (j + 1)) h
              unfold b_X12_lossFrom_28
              rw [c.n, if_neg (nI_ge hj (by omega)), m_has _ (by omega), bd_some, if10, if_pos (inb_nI (show k < 14 by omega) (by omega)), nI_cl (show k < 100000 by omega), c.pa hk, m_has _ (by omega), bd_some, if10, m_bitsUF c.1, bd_some, c.pa hk, m_bits (n := 14) (by omega) (sub_up (c.1.pan hk) (by omega)), bd_some, bc_pa c.1 hk, nI_mul, nI_1, if_pos (inb_nI (show k < 14 by omega) (by omega))]
              by_cases f : bt (UF p s x) k = true
              · rw [if_pos f, if_pos f, if_pos f]
                have hu := uc_pos c.1 f
                obtain ⟨q1, -, -, -⟩ := d72 (uc p s x) (by omega) (pk p k) (by omega) hu (by omega)
                have hq : 0 < uc p s x * pk p k := Nat.mul_pos hu (by omega)
                have hq2 : uc p s x * pk p k ≤ 4 * 3 := Nat.mul_le_mul hu4 hp.2
                by_cases g : bt (p.pa k) j = true
                · rw [if_pos g, if_pos g, nI_nL (by omega), if_neg (fun q => by have := (nL_eq (b := 0) (by omega) (by omega)).mp q; omega), nL_div (by omega) (by omega) hq, nI_sub1 (by omega), show l + 1 - 1 = l by omega]
                  generalize uc p s x * pk p k = u at q1 hq hq2
                  obtain ⟨t, ht⟩ : ∃ t, 72 = u * t := ⟨72 / u, by have := Nat.div_add_mod 72 u; omega⟩
                  have hdiv : 72 ^ (l + 1) * w / u = 72 ^ l * (w * t) := by
                    have : 72 ^ (l + 1) * w = u * (72 ^ l * (w * t)) := by
                      rw [Nat.pow_succ]
                      calc 72 ^ l * 72 * w = 72 ^ l * (u * t) * w := by rw [← ht]
                        _ = u * (72 ^ l * (w * t)) := by
                          rw [Nat.mul_comm w t]
                          simp only [Nat.mul_assoc, Nat.mul_left_comm, Nat.mul_comm]
                    rw [this, Nat.mul_div_cancel_left _ hq]
                  have ht72 : 72 / u = t := by rw [ht, Nat.mul_div_cancel_left _ hq]
                  have hlt : 72 ^ l * (w * t) < 2 ^ 62 := by
                    rw [← hdiv]
                    exact Nat.lt_of_le_of_lt (Nat.div_le_self _ _) hw
                  rw [hdiv, m_lossFrom c l D (by omega) (by omega) j (w * t) hj hlt, bd_some, nL_add, ht72]
                  congr 2
                  rw [Nat.mul_add, Nat.mul_add, Nat.add_assoc, Nat.mul_assoc w t]
                · rw [if_neg g, if_neg g]; rfl
              · rw [if_neg f, if_neg f, if_neg f]) (by
              intro F
              show b_X12_lossFrom_28 (f_X12_lossFrom D) (l_X12_lossFrom_28 (f_X12_lossFrom D) F) (nI (l + 1)) (nL (72 ^ (l + 1) * w)) (UF p s x) _ (nI k) (nI p.n) h = _
              unfold b_X12_lossFrom_28
              rw [c.n, if_pos (Int32.le_refl _)]) (by omega)
            have e0 : A + w * (if bt (UF p s x) k = true then 72 / (uc p s x * pk p k) * sN (fun z => if bt (p.pa k) z = true then Sh p s l z else 0) 0 else 0) = A := by
              have : (if bt (UF p s x) k = true then 72 / (uc p s x * pk p k) * sN (fun z => if bt (p.pa k) z = true then Sh p s l z else 0) 0 else 0) = 0 := by
                split
                · exact Nat.mul_zero _
                · rfl
              rw [this, Nat.mul_zero]; rfl
            rw [e0, nI_0] at this
            exact this
          have := lp0 (fun F k => l_X12_lossFrom_22 (f_X12_lossFrom D) F (nI (l + 1)) (nL (72 ^ (l + 1) * w)) (UF p s x) (nL (w * byR p s (Sh p s l) x k)) (nI k) h) p.m (some (nL (w * byR p s (Sh p s l) x p.m), h)) (by
            intro F k hk
            show b_X12_lossFrom_22 (f_X12_lossFrom D) (l_X12_lossFrom_22 (f_X12_lossFrom D) F) (nI (l + 1)) (nL (72 ^ (l + 1) * w)) (UF p s x) _ (nI k) h = l_X12_lossFrom_22 (f_X12_lossFrom D) F (nI (l + 1)) (nL (72 ^ (l + 1) * w)) (UF p s x) (nL (w * (byR p s (Sh p s l) x k + (if bt (UF p s x) k = true then 72 / (uc p s x * pk p k) * sN (fun z => if bt (p.pa k) z = true then Sh p s l z else 0) p.n else 0)))) (nI (k + 1)) h
            unfold b_X12_lossFrom_22 c_X12_lossFrom_65
            rw [c.m, if_neg (nI_ge hk (by omega)), inner k hk, bd_some, nI_1, Nat.mul_add]) (by
            intro F
            show b_X12_lossFrom_22 (f_X12_lossFrom D) (l_X12_lossFrom_22 (f_X12_lossFrom D) F) (nI (l + 1)) (nL (72 ^ (l + 1) * w)) (UF p s x) _ (nI p.m) h = _
            unfold b_X12_lossFrom_22
            rw [c.m, if_pos (Int32.le_refl _)]) (by omega)
          have this' : l_X12_lossFrom_22 (f_X12_lossFrom D) FU (nI (l + 1)) (nL (72 ^ (l + 1) * w)) (UF p s x) 0 0 h = some (nL (w * byR p s (Sh p s l) x p.m), h) := by
            have e0 : nL (w * byR p s (Sh p s l) x 0) = 0 := by
              have : byR p s (Sh p s l) x 0 = 0 := rfl
              rw [this, Nat.mul_zero]; rfl
            rw [e0, nI_0] at this
            exact this
          rw [this']
          rfl
