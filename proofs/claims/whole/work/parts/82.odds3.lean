theorem mod_half {a b : Nat} (h0 : 0 < a) (h : a < b) : 2 * (b % a) ≤ b := by
  have h1 := Nat.mod_lt b h0
  have h2 := Nat.mod_add_div b a
  have h3 : 1 ≤ b / a := (Nat.le_div_iff_mul_le h0).mpr (by omega)
  have h4 : a * 1 ≤ a * (b / a) := Nat.mul_le_mul_left a h3
  omega
theorem x_gcd {A B : Nat} (hA : A < 2 ^ 40) (hB : B < 2 ^ 40) (h0 : 0 < B) (h : AH) : f_X11_commonDivisor (nL A) (nL B) h = some (nL (Nat.gcd A B), h) := by
  unfold f_X11_commonDivisor
  have := lpi (fun F (q : Int64 × Int64 × Int32) => l_X11_commonDivisor_6 F q.1 q.2.1 q.2.2 h) 100
    (fun j q => ∃ a b, q.1 = nL a ∧ q.2.1 = nL b ∧ q.2.2 = nI j ∧ a < 2 ^ 40 ∧ b < 2 ^ 40 ∧ Nat.gcd a b = Nat.gcd A B ∧ (j = 0 ∨ (a < b ∧ a * b * 2 ^ (j - 1) ≤ 2 ^ 80)))
    (fun o => o = some (nL (Nat.gcd A B), h)) (by
    rintro F j ⟨x4, x6, i⟩ hj ⟨a, b, q1, q2, q3, q4, q5, q6, q7⟩
    simp only at q1 q2 q3
    subst q1 q2 q3
    show b_X11_commonDivisor_6 (l_X11_commonDivisor_6 F) (nL a) (nL b) (nI j) h = _ ∨ ∃ t2 : Int64 × Int64 × Int32, _ ∧ b_X11_commonDivisor_6 (l_X11_commonDivisor_6 F) (nL a) (nL b) (nI j) h = l_X11_commonDivisor_6 F t2.1 t2.2.1 t2.2.2 h
    unfold b_X11_commonDivisor_6
    rw [if_neg (show ¬ (128 : Int32) ≤ nI j from nI_ge (b := 128) (by omega) (by omega))]
    by_cases e : a = 0
    · left
      rw [if_pos ((lgc0 _).mpr (by rw [e]; rfl)), ← q6, e, Nat.gcd_zero_left]
    · right
      have ne : ¬ nL a = 0 := fun z => e ((nL_eq (b := 0) (by omega) (by omega)).mp z)
      rw [if_neg (fun z => ne ((lgc0 _).mp z)), if_neg ne, nL_mod (by omega) (by omega) (by omega), nI_1]
      have hm := Nat.mod_lt b (show 0 < a by omega)
      refine ⟨(nL (b % a), nL a, nI (j + 1)), ⟨b % a, a, rfl, rfl, rfl, by omega, q4, ?_, Or.inr ⟨hm, ?_⟩⟩, rfl⟩
      · rw [← q6, ← Nat.gcd_rec]
      · rw [Nat.add_sub_cancel]
        rcases q7 with z | ⟨z1, z2⟩
        · rw [z, Nat.pow_zero, Nat.mul_one]
          have h1 : b % a * a ≤ 2 ^ 40 * 2 ^ 40 := Nat.mul_le_mul (by omega) (by omega)
          have h2 : 2 ^ 40 * 2 ^ 40 = 2 ^ 80 := by decide
          omega
        · by_cases j0 : j = 0
          · rw [j0, Nat.pow_zero, Nat.mul_one]
            have h1 : b % a * a ≤ 2 ^ 40 * 2 ^ 40 := Nat.mul_le_mul (by omega) (by omega)
            have h2 : 2 ^ 40 * 2 ^ 40 = 2 ^ 80 := by decide
            omega
          · have h1 : 2 ^ j = 2 * 2 ^ (j - 1) := by
              rw [← Nat.pow_succ']
              congr 1
              omega
            have h2 : b % a * a * 2 ^ j = (2 * (b % a)) * a * 2 ^ (j - 1) := by
              rw [h1]
              simp only [Nat.mul_assoc, Nat.mul_left_comm, Nat.mul_comm]
            have h3 : (2 * (b % a)) * a * 2 ^ (j - 1) ≤ b * a * 2 ^ (j - 1) := Nat.mul_le_mul_right _ (Nat.mul_le_mul_right _ (mod_half (by omega) z1))
            rw [h2]
            rw [Nat.mul_comm a b] at z2
            exact Nat.le_trans h3 z2) (by
    rintro F ⟨x4, x6, i⟩ ⟨a, b, q1, q2, q3, q4, q5, q6, q7⟩
    simp only at q1 q2 q3
    subst q1 q2 q3
    have a0 : a = 0 := by
      rcases q7 with z | ⟨z1, z2⟩
      · omega
      · apply Classical.byContradiction
        intro z
        have h1 : 1 * 1 ≤ a * b := Nat.mul_le_mul (by omega) (by omega)
        have h2 : 1 * 2 ^ 99 ≤ a * b * 2 ^ 99 := Nat.mul_le_mul_right _ (by omega)
        have h3 : (2 : Nat) ^ 80 < 1 * 2 ^ 99 := by decide
        have h4 : a * b * 2 ^ 99 ≤ 2 ^ 80 := z2
        omega
    show b_X11_commonDivisor_6 (l_X11_commonDivisor_6 F) (nL a) (nL b) (nI 100) h = _
    unfold b_X11_commonDivisor_6
    rw [if_neg (show ¬ (128 : Int32) ≤ nI 100 by decide), if_pos ((lgc0 _).mpr (by rw [a0]; rfl)), ← q6, a0, Nat.gcd_zero_left]) (by omega) (nL A, nL B, 0) ⟨A, B, rfl, rfl, rfl, hA, hB, rfl, Or.inl rfl⟩
  have this' : l_X11_commonDivisor_6 FU (nL A) (nL B) 0 h = some (nL (Nat.gcd A B), h) := this
  rw [this', bd_some]
  unfold c_X11_commonDivisor_23
  have hg := Nat.gcd_pos_of_pos_right A h0
  have hl := Nat.gcd_le_right A h0
  rw [if_neg (fun z => by have := (nL_eq (b := 0) (by omega) (by omega)).mp ((lgc0 _).mp z); omega)]
theorem m_gcd {A B : Nat} (hA : A < 2 ^ 40) (hB : B < 2 ^ 40) (x1 x3 : Int64) (h : AH) : l_X12_part_4 FU x1 x3 (nL A) (nL B) h = some (nL (Nat.gcd A B), h) := by
  have := lpi (fun F (q : Int64 × Int64) => l_X12_part_4 F x1 x3 q.1 q.2 h) 100
    (fun j q => ∃ a b, q.1 = nL a ∧ q.2 = nL b ∧ a < 2 ^ 40 ∧ b < 2 ^ 40 ∧ Nat.gcd a b = Nat.gcd A B ∧ (j = 0 ∨ (b < a ∧ b * a * 2 ^ (j - 1) ≤ 2 ^ 80)))
    (fun o => o = some (nL (Nat.gcd A B), h)) (by
    rintro F j ⟨x5, x7⟩ hj ⟨a, b, q1, q2, q4, q5, q6, q7⟩
    simp only at q1 q2
    subst q1 q2
    show b_X12_part_4 (l_X12_part_4 F) x1 x3 (nL a) (nL b) h = _ ∨ ∃ t2 : Int64 × Int64, _ ∧ b_X12_part_4 (l_X12_part_4 F) x1 x3 (nL a) (nL b) h = l_X12_part_4 F x1 x3 t2.1 t2.2 h
    unfold b_X12_part_4
    by_cases e : b = 0
    · left
      rw [if_pos ((lgc0 _).mpr (by rw [e]; rfl)), ← q6, e, Nat.gcd_zero_right]
    · right
      have ne : ¬ nL b = 0 := fun z => e ((nL_eq (b := 0) (by omega) (by omega)).mp z)
      rw [if_neg (fun z => ne ((lgc0 _).mp z)), if_neg ne, nL_mod (by omega) (by omega) (by omega)]
      have hm := Nat.mod_lt a (show 0 < b by omega)
      refine ⟨(nL b, nL (a % b)), ⟨b, a % b, rfl, rfl, q5, by omega, ?_, Or.inr ⟨hm, ?_⟩⟩, rfl⟩
      · rw [← q6, Nat.gcd_comm, ← Nat.gcd_rec, Nat.gcd_comm]
      · rw [Nat.add_sub_cancel]
        rcases q7 with z | ⟨z1, z2⟩
        · rw [z, Nat.pow_zero, Nat.mul_one]
          have h1 : a % b * b ≤ 2 ^ 40 * 2 ^ 40 := Nat.mul_le_mul (by omega) (by omega)
          have h2 : 2 ^ 40 * 2 ^ 40 = 2 ^ 80 := by decide
          omega
        · by_cases j0 : j = 0
          · rw [j0, Nat.pow_zero, Nat.mul_one]
            have h1 : a % b * b ≤ 2 ^ 40 * 2 ^ 40 := Nat.mul_le_mul (by omega) (by omega)
            have h2 : 2 ^ 40 * 2 ^ 40 = 2 ^ 80 := by decide
            omega
          · have h1 : 2 ^ j = 2 * 2 ^ (j - 1) := by
              rw [← Nat.pow_succ']
              congr 1
              omega
            have h2 : a % b * b * 2 ^ j = (2 * (a % b)) * b * 2 ^ (j - 1) := by
              rw [h1]
              simp only [Nat.mul_assoc, Nat.mul_left_comm, Nat.mul_comm]
            have h3 : (2 * (a % b)) * b * 2 ^ (j - 1) ≤ a * b * 2 ^ (j - 1) := Nat.mul_le_mul_right _ (Nat.mul_le_mul_right _ (mod_half (by omega) z1))
            rw [h2]
            rw [Nat.mul_comm b a] at z2
            exact Nat.le_trans h3 z2) (by
    rintro F ⟨x5, x7⟩ ⟨a, b, q1, q2, q4, q5, q6, q7⟩
    simp only at q1 q2
    subst q1 q2
    have b0 : b = 0 := by
      rcases q7 with z | ⟨z1, z2⟩
      · omega
      · apply Classical.byContradiction
        intro z
        have h1 : 1 * 1 ≤ b * a := Nat.mul_le_mul (by omega) (by omega)
        have h2 : 1 * 2 ^ 99 ≤ b * a * 2 ^ 99 := Nat.mul_le_mul_right _ (by omega)
        have h3 : (2 : Nat) ^ 80 < 1 * 2 ^ 99 := by decide
        have h4 : b * a * 2 ^ 99 ≤ 2 ^ 80 := z2
        omega
    show b_X12_part_4 (l_X12_part_4 F) x1 x3 (nL a) (nL b) h = _
    unfold b_X12_part_4
    rw [if_pos ((lgc0 _).mpr (by rw [b0]; rfl)), ← q6, b0, Nat.gcd_zero_right]) (by omega) (nL A, nL B) ⟨A, B, rfl, rfl, hA, hB, rfl, Or.inl rfl⟩
  exact this
theorem hsL_hsL (h : AH) (k i j : Nat) (a b : Int64) : hsL (hsL h k i j a) k i j b = hsL h k i j b := by
  unfold hsL
  congr 1
  funext x y z
  by_cases e : x = k ∧ y = i ∧ z = j
  · rw [if_pos e, if_pos e]
  · rw [if_neg e, if_neg e]
    show (if x = k ∧ y = i ∧ z = j then a else h.2 x y z) = _
    rw [if_neg e]
theorem Rel.odds {hx hm hx2 hm2 : AH} (h : Rel hx hm) (f : ∀ k, ¬ (k = 11 ∨ (18 ≤ k ∧ k ≤ 32)) → hx2.1 k = hx.1 k) (g : hm2.1 = hm.1) (a : hx2.2 0 0 15 = hm2.2 34 0 3) (b : hx2.2 0 0 16 = hm2.2 34 0 4) : Rel hx2 hm2 := by
  obtain ⟨⟨⟨a1, a2, a3, a4, a5⟩, a6, a7⟩, p, s, d⟩ := h
  refine ⟨⟨⟨?_, ?_, a, b, ?_⟩, a6.fr (f 2 (by omega)) (f 3 (by omega)) (by rw [g]) (by rw [g]), a7.fr (f 5 (by omega)) (f 6 (by omega)) (by rw [g]) (by rw [g])⟩, p, s, d.fr ⟨fun k _ _ => f k (by omega), fun k _ _ => by rw [f k (by omega)]⟩ ⟨fun k _ _ => by rw [g], fun k _ _ => by rw [g], fun c _ => by rw [g]⟩⟩
  · rw [f 0 (by omega), g]; exact a1
  · rw [f 0 (by omega), g]; exact a2
  · rw [f 33 (by omega), g]; exact a5
theorem e_odds : E2 Rel f_X11_odds f_X12_odds := by
  intro a a2 hx hm h
  show OR _ _
  obtain ⟨b, p, s, d⟩ := h
  have h : Rel hx hm := ⟨b, p, s, d⟩
  have hn := d.1.n10
  unfold f_X11_odds f_X12_odds
  rw [x_isClaim d.x, m_isClaim d.m, bd_some, bd_some, if10, if10]
  by_cases hb : inb a p.n = true
  rotate_left
  · rw [if_neg hb, if_neg hb]; exact OR.same h rfl rfl
  obtain ⟨x, hxn, rfl⟩ := inb_ex hb
  rw [if_pos hb, if_pos hb, show (6 : Int32) = nI 6 from rfl, m_in05 (by omega), bd_some, if10, ifr2 (by omega)]
  by_cases hb3 : inb a2 (6 + 1) = true
  rotate_left
  · rw [if_neg hb3, if_neg hb3]; exact OR.same h rfl rfl
  obtain ⟨L, hL, rfl⟩ := inb_ex hb3
  rw [if_pos hb3, if_pos hb3]
  obtain ⟨h4, r1, r2⟩ := x_share d.x hxn (show L ≤ 6 by omega)
  rw [r1, bd_some]
  have pw : ∀ j, j ≤ 6 → 72 ^ j < 2 ^ 40 := fun j hj => Nat.lt_of_le_of_lt (Nat.pow_le_pow_right (n := 72) (by omega) hj) (by decide)
  have hS : Sh p s L x < 2 ^ 40 := Nat.lt_of_le_of_lt (Sh_le d.1 s L x) (pw L (by omega))
  have p0 : 0 < 72 ^ L := Nat.pow_pos (by omega)
  have w2 : ∀ j, nL (72 ^ j) * (72 : Int64) = nL (72 ^ (j + 1)) := fun j => by
    show nL (72 ^ j) * nL 72 = _
    rw [nL_mul, Nat.pow_succ]
  have lx := lp0 (fun F j => l_X11_odds_23 F (nI L) (nI j) (hsL (hsL h4 0 0 15 (nL (Sh p s L x))) 0 0 16 (nL (72 ^ j)))) L (some ((), hsL (hsL h4 0 0 15 (nL (Sh p s L x))) 0 0 16 (nL (72 ^ L)))) (by
    intro F j hj
    show b_X11_odds_23 (l_X11_odds_23 F) (nI L) (nI j) (hsL (hsL h4 0 0 15 (nL (Sh p s L x))) 0 0 16 (nL (72 ^ j))) = l_X11_odds_23 F (nI L) (nI (j + 1)) (hsL (hsL h4 0 0 15 (nL (Sh p s L x))) 0 0 16 (nL (72 ^ (j + 1))))
    unfold b_X11_odds_23
    rw [if_neg (nI_ge hj (by omega)), hsL_2, if_pos ⟨rfl, rfl, rfl⟩, w2, nI_1, hsL_hsL]) (by
    intro F
    show b_X11_odds_23 (l_X11_odds_23 F) (nI L) (nI L) _ = _
    unfold b_X11_odds_23
    rw [if_pos (Int32.le_refl _)]) (by omega)
  have lx' : l_X11_odds_23 FU (nI L) 0 (hsL (hsL h4 0 0 15 (nL (Sh p s L x))) 0 0 16 1) = some ((), hsL (hsL h4 0 0 15 (nL (Sh p s L x))) 0 0 16 (nL (72 ^ L))) := lx
  have lm := lp0 (fun F j => l_X12_odds_15 F (nI x) (nI L) (nL (72 ^ j)) (nI j) hm) L (some (nL (72 ^ L), hm)) (by
    intro F j hj
    show b_X12_odds_15 (l_X12_odds_15 F) (nI x) (nI L) (nL (72 ^ j)) (nI j) hm = l_X12_odds_15 F (nI x) (nI L) (nL (72 ^ (j + 1))) (nI (j + 1)) hm
    unfold b_X12_odds_15
    rw [if_neg (nI_ge hj (by omega)), w2, nI_1]) (by
    intro F
    show b_X12_odds_15 (l_X12_odds_15 F) (nI x) (nI L) _ (nI L) hm = _
    unfold b_X12_odds_15
    rw [if_pos (Int32.le_refl _)]) (by omega)
  have lm' : l_X12_odds_15 FU (nI x) (nI L) 1 0 hm = some (nL (72 ^ L), hm) := lm
  rw [lx', bd_some, lm', bd_some]
  unfold c_X11_odds_34 c_X12_odds_24
  have hml := m_lossFrom d.m L 12 (by omega) (by omega) x 1 hxn (by rw [Nat.mul_one]; have := pw L (by omega); omega)
  rw [Nat.mul_one, Nat.one_mul] at hml
  rw [hml, bd_some]
  unfold f_X12_part
  have hpL := pw L (by omega)
  have hg := Nat.gcd_pos_of_pos_right (Sh p s L x) p0
  have hgl := Nat.gcd_le_right (Sh p s L x) p0
  have ne : ¬ nL (Nat.gcd (Sh p s L x) (72 ^ L)) = 0 := fun z => by have := (nL_eq (b := 0) (by omega) (by omega)).mp z; omega
  have e15 : (hsL (hsL h4 0 0 15 (nL (Sh p s L x))) 0 0 16 (nL (72 ^ L))).2 0 0 15 = nL (Sh p s L x) := by
    rw [hsL_2, if_neg (by omega), hsL_2, if_pos ⟨rfl, rfl, rfl⟩]
  have e16 : (hsL (hsL h4 0 0 15 (nL (Sh p s L x))) 0 0 16 (nL (72 ^ L))).2 0 0 16 = nL (72 ^ L) := by
    rw [hsL_2, if_pos ⟨rfl, rfl, rfl⟩]
  rw [e15, e16, x_gcd hS hpL p0, bd_some, if_neg ne, if_neg ne, m_gcd hS hpL, bd_some]
  unfold c_X12_part_17
  rw [if_neg ne, if_neg ne, bd_some, e15, hsL_2 _ 0 0 15 _ 0 0 16, if_neg (by omega), e16]
  refine ⟨1, _, _, rfl, rfl, h.odds (fun k hk => r2.1 k hk) rfl ?_ ?_⟩
  · rw [hsL_2, if_neg (by omega), hsL_2, if_pos ⟨rfl, rfl, rfl⟩, hsL_2, if_neg (by omega), hsL_2, if_pos ⟨rfl, rfl, rfl⟩]
  · rw [hsL_2, if_pos ⟨rfl, rfl, rfl⟩, hsL_2, if_pos ⟨rfl, rfl, rfl⟩]
