def cnd (p : PD) (R : Int32) (y : Nat) : Bool := bt R y && !isE p y
def fU (p : PD) (s : SD) : Option Nat → Int32
  | none => 1000000
  | some y => nI (uc p s y)
theorem x_thinL {h : AH} {p : PD} {s : SD} (c : XC h p s) (R : Int32) : l_X0_thinnestFrom_17 FU (R &&& (EN p ^^^ (-1))) (-9) 1000000 0 h = some (oI (tU (cnd p R) (uc p s) p.n), h) := by
  have hn := c.1.n10
  have hc : ∀ j, j < p.n → bt (R &&& (EN p ^^^ (-1))) j = cnd p R j := by
    intro j hj
    rw [bt_and, bt_not _ (by omega), btEN c.1, decide_eq_true hj, Bool.true_and]
    rfl
  have := lp0 (fun F j => l_X0_thinnestFrom_17 F (R &&& (EN p ^^^ (-1))) (oI (tU (cnd p R) (uc p s) j)) (fU p s (tU (cnd p R) (uc p s) j)) (nI j) h) p.n (some (oI (tU (cnd p R) (uc p s) p.n), h)) (by
    intro F j hj
    show b_X0_thinnestFrom_17 (l_X0_thinnestFrom_17 F) _ _ _ (nI j) h = l_X0_thinnestFrom_17 F _ (oI (if cnd p R j = true then (match tU (cnd p R) (uc p s) j with | none => some j | some y => if uc p s y ≤ uc p s j then some y else some j) else tU (cnd p R) (uc p s) j)) (fU p s (if cnd p R j = true then (match tU (cnd p R) (uc p s) j with | none => some j | some y => if uc p s y ≤ uc p s j then some y else some j) else tU (cnd p R) (uc p s) j)) (nI (j + 1)) h
    have hu := uc14 p s j
    unfold b_X0_thinnestFrom_17
    rw [c.n, if_neg (nI_ge hj (by omega)), x_usableFor c (by omega), bd_some, x_bc, bd_some, bc_UF c.1, x_has _ (by omega), bd_some, if10, nI_1, hc j hj]
    by_cases e : cnd p R j = true
    · rw [if_pos e, if_pos e]
      cases q : tU (cnd p R) (uc p s) j with
      | none =>
        have hz : ¬ (1000000 : Int32) ≤ nI (uc p s j) := nI_ge (b := 1000000) (by omega) (by omega)
        exact if_neg hz
      | some y =>
        have hy := uc14 p s y
        simp only [fU, oI, nI_leI (show uc p s y < 2 ^ 31 by omega) (show uc p s j < 2 ^ 31 by omega)]
        by_cases r : uc p s y ≤ uc p s j
        · simp only [if_pos r]
        · simp only [if_neg r]
    · rw [if_neg e, if_neg e]) (by
    intro F
    show b_X0_thinnestFrom_17 (l_X0_thinnestFrom_17 F) _ _ _ (nI p.n) h = _
    unfold b_X0_thinnestFrom_17
    rw [c.n, if_pos (Int32.le_refl _)]) (by omega)
  rw [nI_0] at this
  exact this
theorem m_thinL {h : AH} {p : PD} {s : SD} (c : MC h p s) (R : Int32) (h0 : 0 < p.n) : l_X12_thin_17 FU R (-9) (nI (p.n - 1)) h = some (oI (tD (cnd p R) (uc p s) p.n p.n), h) := by
  have hn := c.1.n10
  have := lp0 (fun F i => l_X12_thin_17 F R (oI (tD (cnd p R) (uc p s) p.n i)) (if i = p.n then -1 else nI (p.n - 1 - i)) h) p.n (some (oI (tD (cnd p R) (uc p s) p.n p.n), h)) (by
    intro F i hi
    show b_X12_thin_17 (l_X12_thin_17 F) R _ _ h = l_X12_thin_17 F R (oI (if cnd p R (p.n - 1 - i) = true then (match tD (cnd p R) (uc p s) p.n i with | none => some (p.n - 1 - i) | some y => if uc p s y < uc p s (p.n - 1 - i) then some y else some (p.n - 1 - i)) else tD (cnd p R) (uc p s) p.n i)) (if i + 1 = p.n then -1 else nI (p.n - 1 - (i + 1))) h
    have hu := uc14 p s (p.n - 1 - i)
    have hl : p.n - 1 - i < p.n := by omega
    have hnext : nI (p.n - 1 - i) + (-1) = (if i + 1 = p.n then -1 else nI (p.n - 1 - (i + 1))) := by
      by_cases e : i + 1 = p.n
      · rw [if_pos e, show p.n - 1 - i = 0 by omega]; rfl
      · rw [if_neg e]
        have : nI (p.n - 1 - i) = nI (p.n - 1 - (i + 1)) + 1 := by rw [nI_1]; congr 1; omega
        rw [this, Int32.add_assoc]
        exact Int32.add_zero _
    unfold b_X12_thin_17
    rw [if_neg (show ¬ i = p.n by omega), if_neg (nI_pos (by omega)), m_has _ (by omega), bd_some, if10, m_isEnd c hl, bd_some, if10, m_usableFor c (by omega), bd_some, m_bitsUF c.1, bd_some, hnext]
    have hcd : cnd p R (p.n - 1 - i) = (bt R (p.n - 1 - i) && !isE p (p.n - 1 - i)) := rfl
    by_cases e : bt R (p.n - 1 - i) = true
    · rw [if_pos e]
      by_cases f : isE p (p.n - 1 - i) = true
      · rw [if_pos f, if_neg (c := cnd p R (p.n - 1 - i) = true) (by rw [hcd, f]; simp)]
      · rw [if_neg f, if_pos (c := cnd p R (p.n - 1 - i) = true) (by rw [hcd, e]; simpa using f)]
        have hg := tD_g (cnd p R) (uc p s) p.n i (by omega)
        cases q : tD (cnd p R) (uc p s) p.n i with
        | none => rfl
        | some y =>
          rw [q] at hg
          have hy := uc14 p s y
          have n9 : ¬ nI y = -9 := by
            intro z
            have := congrArg Int32.toInt z
            rw [nI_toInt (by have := hg.2.1; omega)] at this
            have h2 : (-9 : Int32).toInt = -9 := rfl
            omega
          simp only [oI, if_neg n9, m_usableFor c (show y < 32 by have := hg.2.1; omega), bd_some, m_bitsUF c.1, nI_ltI (show uc p s y < 2 ^ 31 by omega) (show uc p s (p.n - 1 - i) < 2 ^ 31 by omega)]
          by_cases r : uc p s y < uc p s (p.n - 1 - i)
          · simp only [if_pos r]
          · simp only [if_neg r]
    · rw [if_neg e, if_neg (c := cnd p R (p.n - 1 - i) = true) (by rw [hcd]; simp [e])]) (by
    intro F
    show b_X12_thin_17 (l_X12_thin_17 F) R _ _ h = _
    unfold b_X12_thin_17
    rw [if_pos rfl, if_pos (by decide)]) (by omega)
  rw [if_neg (by omega), Nat.sub_zero] at this
  exact this
