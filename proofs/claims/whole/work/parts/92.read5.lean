theorem kind_cs (t : Int32) (h g : AH) : (f_X4_kindOf t h = some (-9, h) ∧ f_X12_kindOf t g = some (-9, g)) ∨ ∃ k, k ≤ 5 ∧ f_X4_kindOf t h = some (nI k, h) ∧ f_X12_kindOf t g = some (nI k, g) := by
  unfold f_X4_kindOf f_X12_kindOf
  by_cases e : t = 97
  · rw [if_pos e, if_pos e]; exact Or.inr ⟨3, by omega, rfl, rfl⟩
  rw [if_neg e, if_neg e]
  by_cases e : t = 98
  · rw [if_pos e, if_pos e]; exact Or.inl ⟨rfl, rfl⟩
  rw [if_neg e, if_neg e]
  by_cases e : t = 99
  · rw [if_pos e, if_pos e]; exact Or.inr ⟨0, by omega, rfl, rfl⟩
  rw [if_neg e, if_neg e]
  by_cases e : t = 100
  · rw [if_pos e, if_pos e]; exact Or.inl ⟨rfl, rfl⟩
  rw [if_neg e, if_neg e]
  by_cases e : t = 101
  · rw [if_pos e, if_pos e]; exact Or.inr ⟨1, by omega, rfl, rfl⟩
  rw [if_neg e, if_neg e]
  by_cases e : t = 102
  · rw [if_pos e, if_pos e]; exact Or.inl ⟨rfl, rfl⟩
  rw [if_neg e, if_neg e]
  by_cases e : t = 103
  · rw [if_pos e, if_pos e]; exact Or.inl ⟨rfl, rfl⟩
  rw [if_neg e, if_neg e]
  by_cases e : t = 104
  · rw [if_pos e, if_pos e]; exact Or.inr ⟨4, by omega, rfl, rfl⟩
  rw [if_neg e, if_neg e]
  by_cases e : t = 105
  · rw [if_pos e, if_pos e]; exact Or.inl ⟨rfl, rfl⟩
  rw [if_neg e, if_neg e]
  by_cases e : t = 106
  · rw [if_pos e, if_pos e]; exact Or.inl ⟨rfl, rfl⟩
  rw [if_neg e, if_neg e]
  by_cases e : t = 107
  · rw [if_pos e, if_pos e]; exact Or.inl ⟨rfl, rfl⟩
  rw [if_neg e, if_neg e]
  by_cases e : t = 108
  · rw [if_pos e, if_pos e]; exact Or.inr ⟨2, by omega, rfl, rfl⟩
  rw [if_neg e, if_neg e]
  by_cases e : t = 109
  · rw [if_pos e, if_pos e]; exact Or.inr ⟨5, by omega, rfl, rfl⟩
  rw [if_neg e, if_neg e]
  exact Or.inl ⟨rfl, rfl⟩
/-- one more claim -/
def addC (P : PD) (k : Nat) : PD := (P.n + 1, P.m, fun x => if x = P.n then k else P.ki x, P.co, P.pa)
theorem rd_claim {gx gm : AH} {P : PD} {su : Nat → Nat} {r N a : Nat} {tx : Nat → Int32} (v : PV P) (sv : SUV P su) (hr : r < 4) (hN : N ≤ 80) (ha : a < N) (dx : DX gx P su a) (dm : DM gm P su a) (t : TX gx gm r N tx) : RdO gx gm N a (bd (f_X4_kindOf (tx a) gx) (fun y5 h6 => (if y5 = (-9 : Int32) then some (zn (0 : Int32), h6) else (if 0 < (h6.1 12 1 6) then some (zn (0 : Int32), h6) else bd (f_X6_addClaim 1 y5 h6) (fun y7 h8 => (if y7 = 0 then some (zn (0 : Int32), h8) else some (zn (1 : Int32), (hsI h8 11 0 1 ((h8.1 11 0 1) + (1 : Int32))))))))) ) (f_X12_readsClaim (nI r) gm) := by
  have hn := v.n10
  have hm := v.m14
  unfold f_X12_readsClaim
  rw [dm.2.2.2.2, m_byte t hr hN (by omega), bd_some, if_pos ha, zn0, zn1]
  have stay : ∀ fx fm, fx = some (0, gx) → fm = some (0, gm) → RdO gx gm N a fx fm := fun fx fm e1 e2 => ⟨gx, gm, RX.rfl, SM.rfl, Or.inl ⟨a, by omega, e1, e2, dx.2.2, dm.2.2.2.2⟩⟩
  rcases kind_cs (tx a) gx gm with ⟨k1, k2⟩ | ⟨k, k5, k1, k2⟩
  · rw [k1, k2, bd_some, bd_some, if_pos rfl, if_pos rfl]
    exact stay _ _ rfl rfl
  have n9 : ¬ nI k = -9 := nI_n9 (by omega)
  rw [k1, k2, bd_some, bd_some, if_neg n9, if_neg n9, dx.1.2.1, dm.1, dm.2.1]
  by_cases m0 : P.m = 0
  rotate_left
  · rw [if_pos (show (0 : Int32) < nI P.m from (nI_ltI (a := 0) (by omega) (by omega)).mpr (by omega)), if_neg (c := nI P.m ≤ 0) (fun z => m0 ((nI_le0 (by omega)).mp z))]
    refine stay _ _ rfl ?_
    split <;> rfl
  rw [if_neg (show ¬ (0 : Int32) < nI P.m from fun z => by have := (nI_ltI (a := 0) (by omega) (by omega)).mp z; omega), if_pos (c := nI P.m ≤ 0) ((nI_le0 (by omega)).mpr m0)]
  unfold f_X6_addClaim
  rw [dx.1.1, zn0, zn1]
  by_cases n10 : P.n = 10
  · rw [if_pos (show nI P.n = (10 : Int32) by rw [n10]; rfl), if_pos (show (10 : Int32) ≤ nI P.n by rw [n10]; decide), bd_some, if_pos rfl]
    exact stay _ _ rfl rfl
  rw [if_neg (show ¬ nI P.n = (10 : Int32) from fun z => n10 ((nI_eq (b := 10) (by omega) (by omega)).mp z)), if_neg (show ¬ (10 : Int32) ≤ nI P.n from nI_ge (b := 10) (by omega) (by omega)), if_neg (nI_neg (by omega)), if_pos (show nI k < (6 : Int32) from nI_lt (b := 6) (by omega) (by omega)), if_pos (inb_nI (show P.n < 10 by omega) (by omega)), if_pos (inb_nI (show P.n < 10 by omega) (by omega)), if_pos (inb_nI (show k < 6 by omega) (by omega)), if_pos (inb_nI (show k < 6 by omega) (by omega)), nI_cl (show P.n < 100000 by omega), nI_cl (show k < 100000 by omega), bd_some, if_neg i10]
  simp only [hsI_k (show (12 : Nat) ≠ 13 by decide), hsI_k (show (12 : Nat) ≠ 14 by decide), hsI_k (show (14 : Nat) ≠ 13 by decide), hsI_k (show (11 : Nat) ≠ 12 by decide), hsI_k (show (11 : Nat) ≠ 13 by decide), hsI_k (show (11 : Nat) ≠ 14 by decide), hsI_k (show (34 : Nat) ≠ 45 by decide), dx.1.1, dx.2.2, dm.1, nI_1]
  have e19 : (hsI (hsI gm 45 0 P.n (nI k)) 34 0 21 (nI (P.n + 1))).1 34 0 19 = nI a := by
    rw [hsI_1, if_neg (by omega), hsI_k (by decide)]; exact dm.2.2.2.2
  rw [e19, nI_1]
  obtain ⟨⟨c1, c2, c3, c4, c5⟩, c6, c7⟩ := dx
  obtain ⟨d1, d2, d3, d4, d5⟩ := dm
  refine ⟨_, _, (((RX.rfl.sI (by omega)).sI (by omega)).sI (by omega)).sI (by omega), ((SM.rfl.sI (by omega)).sI (by omega)).sI (by omega), Or.inr ⟨a + 1, addC P k, su, rfl, rfl, by omega, by omega, ⟨by show P.n + 1 ≤ 10; omega, hm, fun x hx => ?_, fun q hq => ?_, v.2.2.2.2⟩, fun q hq => sv q hq, by show 0 < P.n + 1; omega, ⟨⟨?_, ?_, ?_, ?_, ?_⟩, ?_, ?_⟩, ?_, ?_, ?_, ?_, ?_⟩⟩
  · show (if x = P.n then k else P.ki x) ≤ 5
    have hx' : x < P.n + 1 := hx
    split
    · exact k5
    · exact v.ki5 (by omega)
  · have hq' : q < P.m := hq
    omega
  · rw [hsI_k (by decide), hsI_1, if_pos ⟨rfl, rfl, rfl⟩]; rfl
  · rw [hsI_k (by decide), hsI_1, if_neg (by omega), hsI_k (by decide), hsI_k (by decide)]; exact c2
  · intro x hx
    have hx' : x < P.n + 1 := hx
    show _ = nI (if x = P.n then k else P.ki x)
    rw [hsI_k (by decide), hsI_k (by decide), hsI_k (by decide), hsI_1]
    by_cases e : x = P.n
    · rw [if_pos (c := 13 = 13 ∧ 1 = 1 ∧ x = P.n) ⟨rfl, rfl, e⟩, if_pos e]
    · rw [if_neg (c := 13 = 13 ∧ 1 = 1 ∧ x = P.n) (fun z => e z.2.2), if_neg e]
      exact c3 x (by omega)
  · intro j hj x
    show _ = decide (x < P.n + 1 ∧ (if x = P.n then k else P.ki x) = j)
    rw [hsI_k (by decide), hsI_k (by decide), hsI_1]
    by_cases e : j = k
    · rw [if_pos (c := 14 = 14 ∧ 1 = 1 ∧ j = k) ⟨rfl, rfl, e⟩, bt_or, Bool.eq_iff_iff, Bool.or_eq_true, c4 k (by omega), decide_eq_true_eq, decide_eq_true_eq, bt_one (by omega), e]
      by_cases f : x = P.n
      · simp [f]
      · simp only [if_neg f]
        constructor
        · rintro (z | z)
          · exact ⟨by omega, z.2⟩
          · exact absurd z f
        · exact fun z => Or.inl ⟨by omega, z.2⟩
    · rw [if_neg (c := 14 = 14 ∧ 1 = 1 ∧ j = k) (fun z => e z.2.2), hsI_k (by decide), c4 j hj, Bool.eq_iff_iff, decide_eq_true_eq, decide_eq_true_eq]
      by_cases f : x = P.n
      · simp only [if_pos f]
        exact ⟨fun z => by omega, fun z => absurd z.2.symm e⟩
      · simp only [if_neg f]
        exact ⟨fun z => ⟨by omega, z.2⟩, fun z => ⟨by omega, z.2⟩⟩
  · intro q hq
    have hq' : q < P.m := hq
    omega
  · intro q hq
    have hq' : q < P.m := hq
    omega
  · rw [hsI_1, if_pos ⟨rfl, rfl, rfl⟩]
  · rw [hsI_1, if_neg (by omega), hsI_1, if_pos ⟨rfl, rfl, rfl⟩]; rfl
  · rw [hsI_1, if_neg (by omega), hsI_1, if_neg (by omega), hsI_k (by decide)]; exact d2
  · intro x hx
    have hx' : x < P.n + 1 := hx
    show _ = nI (if x = P.n then k else P.ki x)
    rw [hsI_k (by decide), hsI_k (by decide), hsI_1]
    by_cases e : x = P.n
    · rw [if_pos (c := 45 = 45 ∧ 0 = 0 ∧ x = P.n) ⟨rfl, rfl, e⟩, if_pos e]
    · rw [if_neg (c := 45 = 45 ∧ 0 = 0 ∧ x = P.n) (fun z => e z.2.2), if_neg e]
      exact d3 x (by omega)
  · intro q hq
    have hq' : q < P.m := hq
    omega
  · rw [hsI_1, if_pos ⟨rfl, rfl, rfl⟩]
