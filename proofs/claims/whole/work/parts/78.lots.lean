/-! ===== longs that are small ===== -/
def nL (n : Nat) : Int64 := Int64.ofNat n
theorem nL_toInt {n : Nat} (h : n < 2 ^ 63) : (nL n).toInt = n := Int64.toInt_ofNat_of_lt h
theorem nL_mul (a b : Nat) : nL a * nL b = nL (a * b) := (Int64.ofNat_mul a b).symm
theorem nL_add (a b : Nat) : nL a + nL b = nL (a + b) := (Int64.ofNat_add a b).symm
theorem nL_sub {a b : Nat} (h : b ≤ a) : nL a - nL b = nL (a - b) := by
  have : nL a = nL (a - b) + nL b := by rw [nL_add]; congr 1; omega
  rw [this, Int64.add_sub_cancel]
theorem nL_div {a b : Nat} (ha : a < 2 ^ 63) (hb : b < 2 ^ 63) (h0 : 0 < b) : nL a / nL b = nL (a / b) := by
  apply Int64.toInt_inj.mp
  have h1 : a / b ≤ a := Nat.div_le_self a b
  rw [Int64.toInt_div, nL_toInt ha, nL_toInt hb, nL_toInt (by omega), ← Int.ofNat_tdiv]
  generalize a / b = q at h1
  exact Int.bmod_eq_of_le (by omega) (by omega)
theorem nL_mod {a b : Nat} (ha : a < 2 ^ 63) (hb : b < 2 ^ 63) (h0 : 0 < b) : nL a - nL a / nL b * nL b = nL (a % b) := by
  have h1 : a / b * b ≤ a := Nat.div_mul_le_self a b
  rw [nL_div ha hb h0, nL_mul, nL_sub h1]
  congr 1
  have := Nat.mod_add_div a b
  rw [Nat.mul_comm] at this
  omega
theorem nL_eq {a b : Nat} (ha : a < 2 ^ 63) (hb : b < 2 ^ 63) : (nL a = nL b) ↔ a = b := by
  constructor
  · intro e
    have := congrArg Int64.toInt e
    rw [nL_toInt ha, nL_toInt hb] at this
    omega
  · intro e; rw [e]
theorem nI_nL {a : Nat} (h : a < 2 ^ 31) : (nI a).toInt64 = nL a := by
  apply Int64.toInt_inj.mp
  rw [Int32.toInt_toInt64, nI_toInt h, nL_toInt (by omega)]
theorem nL_nI {a : Nat} (h : a < 2 ^ 31) : (nL a).toInt32 = nI a := by
  rw [← nI_nL h, Int32.toInt32_toInt64]
theorem lgc0 (x : Int64) : lg_cmp x 0 = 0 ↔ x = 0 := by
  unfold lg_cmp
  by_cases e : x = 0
  · subst e; decide
  · simp [e]
    split <;> decide
/-! the l-th bit -/
theorem nth_ex (P : Nat → Bool) : ∀ n l, l < cnt P n → ∃ i, i < n ∧ P i = true ∧ cnt P i = l
  | 0, l, h => by have : l < 0 := h; omega
  | n + 1, l, h => by
    have h' : l < cnt P n + (if P n = true then 1 else 0) := h
    by_cases e : l < cnt P n
    · obtain ⟨i, a, b⟩ := nth_ex P n l e
      exact ⟨i, by omega, b⟩
    · by_cases f : P n = true
      · rw [if_pos f] at h'
        exact ⟨n, by omega, f, by omega⟩
      · rw [if_neg f] at h'; omega
theorem cnt_up (P : Nat → Bool) (j : Nat) : ∀ d, cnt P j ≤ cnt P (j + d)
  | 0 => Nat.le_refl _
  | d + 1 => Nat.le_trans (cnt_up P j d) (by show _ ≤ cnt P (j + d) + _; omega)
theorem cnt_up' (P : Nat → Bool) {i j : Nat} (h : j ≤ i) : cnt P j ≤ cnt P i := by
  obtain ⟨d, rfl⟩ := Nat.exists_eq_add_of_le h
  exact cnt_up P j d
theorem cnt_suc (P : Nat → Bool) (j : Nat) : cnt P (j + 1) = cnt P j + (if P j = true then 1 else 0) := rfl
theorem x_drawn {B : Int32} (hs : sub B 14) {a : Nat} (ha : a < 2 ^ 62) {i : Nat} (hi : i < 14) (h0 : 0 < cnt (bt B) 14) (b1 : bt B i = true) (b2 : cnt (bt B) i = a % cnt (bt B) 14) (h : AH) : f_X2_drawn B (nL a) h = some (nI i, h) := by
  have hc := cnt_le (bt B) 14
  unfold f_X2_drawn
  rw [x_bc, bd_some, bc_eq (n := 14) (by omega) hs, nI_nL (by omega), if_neg (fun z => by have := (nI_eq0 (by omega)).mp z; omega), if_neg (fun z => by have := (nL_eq (b := 0) (by omega) (by omega)).mp z; omega), nL_mod (by omega) (by omega) h0]
  generalize a % cnt (bt B) 14 = l at b2
  have hl : l ≤ 14 := by have := cnt_up' (bt B) (show i ≤ 14 by omega); omega
  have := lp0 (fun F j => l_X2_drawn_14 F B (nL (l - cnt (bt B) j)) (nI j) h) i (some (nI i, h)) (by
    intro F j hj
    show b_X2_drawn_14 (l_X2_drawn_14 F) B (nL (l - cnt (bt B) j)) (nI j) h = l_X2_drawn_14 F B (nL (l - cnt (bt B) (j + 1))) (nI (j + 1)) h
    have hu := cnt_up' (bt B) (show j + 1 ≤ i by omega)
    unfold b_X2_drawn_14
    rw [if_neg (show ¬ (32 : Int32) ≤ nI j from nI_ge (b := 32) (by omega) (by omega)), x_has _ (by omega), bd_some, if10, nI_1]
    rw [cnt_suc] at hu ⊢
    by_cases e : bt B j = true
    · rw [if_pos e] at hu
      rw [if_pos e, if_pos e, if_neg (fun z => by have := (nL_eq (b := 0) (by omega) (by omega)).mp ((lgc0 _).mp z); omega), show (1 : Int64) = nL 1 from rfl, nL_sub (by omega)]
      congr 2
    · rw [if_neg e, if_neg e]; rfl) (by
    intro F
    show b_X2_drawn_14 (l_X2_drawn_14 F) B (nL (l - cnt (bt B) i)) (nI i) h = _
    unfold b_X2_drawn_14
    rw [if_neg (show ¬ (32 : Int32) ≤ nI i from nI_ge (b := 32) (by omega) (by omega)), x_has _ (by omega), bd_some, if10, if_pos b1, if_pos]
    rw [lgc0, b2, Nat.sub_self]
    rfl) (by omega)
  exact this
theorem m_pick {B : Int32} {i : Nat} (hi : i < 14) (b1 : bt B i = true) (h : AH) : f_X12_pick B (nI (cnt (bt B) i)) h = some (nI i, h) := by
  unfold f_X12_pick
  have hl : cnt (bt B) i ≤ i := cnt_le _ _
  have := lp0 (fun F j => l_X12_pick_4 F B (nI (cnt (bt B) i - cnt (bt B) j)) (nI j) h) i (some (nI i, h)) (by
    intro F j hj
    show b_X12_pick_4 (l_X12_pick_4 F) B (nI (cnt (bt B) i - cnt (bt B) j)) (nI j) h = l_X12_pick_4 F B (nI (cnt (bt B) i - cnt (bt B) (j + 1))) (nI (j + 1)) h
    have hu := cnt_up' (bt B) (show j + 1 ≤ i by omega)
    unfold b_X12_pick_4
    rw [m_has _ (by omega), bd_some, if10, m_has _ (by omega), bd_some, if10, nI_1]
    rw [cnt_suc] at hu ⊢
    by_cases e : bt B j = true
    · rw [if_pos e] at hu
      simp only [if_pos e]
      rw [if_neg (fun z => by have := (nI_le0 (by omega)).mp z; omega), show (1 : Int32) = nI 1 from rfl, nI_sub (by omega)]
      congr 2
    · simp only [if_neg e, Int32.sub_zero, Nat.add_zero]) (by
    intro F
    show b_X12_pick_4 (l_X12_pick_4 F) B (nI (cnt (bt B) i - cnt (bt B) i)) (nI i) h = _
    unfold b_X12_pick_4
    rw [m_has _ (by omega), bd_some, if10, if_pos b1, if_pos]
    rw [Nat.sub_self]
    exact Int32.le_refl _) (by omega)
  have e0 : cnt (bt B) i - cnt (bt B) 0 = cnt (bt B) i := rfl
  rw [e0, nI_0] at this
  rw [this]
  rfl
