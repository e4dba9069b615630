/-! ===== agree ===== -/
def uc (p : PD) (s : SD) (y : Nat) : Nat := cnt (bt (UF p s y)) 14
theorem sub_UF {p : PD} (v : PV p) (s : SD) (y : Nat) : sub (UF p s y) 14 := fun i hi => by
  have := sub_ms _ _ (by have := v.m14; omega) i hi
  have := v.m14
  omega
theorem bc_UF {p : PD} (v : PV p) (s : SD) (y : Nat) : bc (UF p s y) = nI (uc p s y) := bc_eq (n := 14) (by omega) (sub_UF v s y)
theorem uc14 (p : PD) (s : SD) (y : Nat) : uc p s y ≤ 14 := cnt_le _ _
theorem m_bitsUF {p : PD} (v : PV p) (s : SD) (y : Nat) (h : AH) : f_X12_bits (UF p s y) h = some (nI (uc p s y), h) := by
  rw [m_bits (n := 14) (by omega) (sub_UF v s y), bc_UF v]
def sA (p : PD) (s : SD) (a : Int32) : Nat → Int32
  | 0 => a
  | j + 1 => sA p s a j &&& (if uc p s j ≤ 1 then -1 else ((1 : Int32) <<< (nI j &&& 31)) ^^^ (-1))
theorem bt_sA (p : PD) (s : SD) (a : Int32) : ∀ j, j ≤ 32 → ∀ i, i < 32 → (bt (sA p s a j) i = true ↔ bt a i = true ∧ (i < j → uc p s i ≤ 1))
  | 0, _, i, _ => ⟨fun h => ⟨h, fun z => by omega⟩, fun h => h.1⟩
  | j + 1, hj, i, hi => by
    show bt (sA p s a j &&& _) i = true ↔ _
    rw [bt_and, Bool.and_eq_true, bt_sA p s a j (by omega) i hi]
    have hq : bt (if uc p s j ≤ 1 then -1 else ((1 : Int32) <<< (nI j &&& 31)) ^^^ (-1)) i = true ↔ (i = j → uc p s i ≤ 1) := by
      by_cases e : uc p s j ≤ 1
      · rw [if_pos e, bt_m1 i hi]
        exact ⟨fun _ z => by rw [z]; exact e, fun _ => rfl⟩
      · rw [if_neg e, bt_not _ hi, bt_sl _ (by omega) _ hi]
        by_cases d : i = j
        · subst d
          simp
          omega
        · simp [d]
    rw [hq]
    constructor
    · rintro ⟨⟨a1, a2⟩, a3⟩
      refine ⟨a1, fun z => ?_⟩
      by_cases e : i = j
      · exact a3 e
      · exact a2 (by omega)
    · rintro ⟨a1, a2⟩
      exact ⟨⟨a1, fun z => a2 (by omega)⟩, fun z => a2 (by omega)⟩
theorem x_settled {h : AH} {p : PD} {s : SD} (c : XC h p s) {x : Nat} (hx : x < p.n) : f_X0_settledFrom (nI x) h = some (sA p s (RC p s x) p.n, h) := by
  have hn := c.1.n10
  unfold f_X0_settledFrom
  rw [x_reach c hx, bd_some]
  have := lp0 (fun F j => l_X0_settledFrom_6 F (sA p s (RC p s x) j) (nI j) h) p.n (some (sA p s (RC p s x) p.n, h)) (by
    intro F j hj
    show b_X0_settledFrom_6 (l_X0_settledFrom_6 F) _ (nI j) h = l_X0_settledFrom_6 F (sA p s (RC p s x) j &&& (if uc p s j ≤ 1 then -1 else ((1 : Int32) <<< (nI j &&& 31)) ^^^ (-1))) (nI (j + 1)) h
    have hu := uc14 p s j
    unfold b_X0_settledFrom_6
    rw [c.n, if_neg (nI_ge hj (by omega)), x_usableFor c (by omega), bd_some, x_bc, bd_some, bc_UF c.1, nI_1]
    have e1 : (nI (uc p s j) ≤ 1) ↔ uc p s j ≤ 1 := nI_leI (b := 1) (by omega) (by omega)
    by_cases e : uc p s j ≤ 1
    · rw [if_pos (e1.mpr e), if_pos e]
    · rw [if_neg (fun z => e (e1.mp z)), if_neg e]) (by
    intro F
    show b_X0_settledFrom_6 (l_X0_settledFrom_6 F) _ (nI p.n) h = _
    unfold b_X0_settledFrom_6
    rw [c.n, if_pos (Int32.le_refl _)]) (by omega)
  rw [nI_0] at this
  show bd (l_X0_settledFrom_6 FU (sA p s (RC p s x) 0) 0 h) _ = _
  rw [this]
  rfl
theorem m_agreeL {h : AH} {p : PD} {s : SD} (c : MC h p s) (R : Int32) : l_X12_agree_14 FU R 0 0 h = some (ms (fun y => bt R y && decide (uc p s y ≤ 1)) p.n, h) := by
  have hn := c.1.n10
  have := lp0 (fun F j => l_X12_agree_14 F R (ms (fun y => bt R y && decide (uc p s y ≤ 1)) j) (nI j) h) p.n (some (ms (fun y => bt R y && decide (uc p s y ≤ 1)) p.n, h)) (by
    intro F j hj
    show b_X12_agree_14 (l_X12_agree_14 F) R _ (nI j) h = _
    have hu := uc14 p s j
    unfold b_X12_agree_14
    rw [c.n, if_neg (nI_ge hj (by omega)), m_has _ (by omega), bd_some, if10, m_usableFor c (by omega), bd_some, m_bitsUF c.1, bd_some, nI_1]
    have e2 : ((2 : Int32) ≤ nI (uc p s j)) ↔ 2 ≤ uc p s j := nI_leI (a := 2) (by omega) (by omega)
    by_cases e : bt R j = true
    · rw [if_pos e]
      by_cases f : 2 ≤ uc p s j
      · rw [if_pos (e2.mpr f), ms_n (by simp; omega)]
      · rw [if_neg (fun z => f (e2.mp z)), ms_s (by simp [e]; omega)]
    · rw [if_neg e, ms_n (by simp [e])]) (by
    intro F
    show b_X12_agree_14 (l_X12_agree_14 F) R _ (nI p.n) h = _
    unfold b_X12_agree_14
    rw [c.n, if_pos (Int32.le_refl _)]) (by omega)
  rw [nI_0] at this
  exact this
theorem e_agree : E1 Rel f_X11_agree f_X12_agree := by
  intro a hx hm h
  show OR _ _
  obtain ⟨b, p, s, d⟩ := h
  have h : Rel hx hm := ⟨b, p, s, d⟩
  have hn := d.1.n10
  unfold f_X11_agree f_X12_agree
  simp only [x_isClaim d.x, m_isClaim d.m, bd_some, if10]
  by_cases hb : inb a p.n = true
  rotate_left
  · simp only [if_neg hb]; exact OR.same h rfl rfl
  obtain ⟨x, hxn, rfl⟩ := inb_ex hb
  simp only [if_pos hb, x_settled d.x hxn, m_comesTo d.m hxn, bd_some, m_agreeL d.m, c_X12_agree_38]
  have : sA p s (RC p s x) p.n = ms (fun y => bt (RC p s x) y && decide (uc p s y ≤ 1)) p.n := by
    apply bt_ext
    intro i hi
    rw [Bool.eq_iff_iff, bt_sA p s _ _ (by omega) i hi, bt_ms _ _ (by omega), Bool.and_eq_true, Bool.and_eq_true, decide_eq_true_eq, decide_eq_true_eq]
    constructor
    · rintro ⟨a1, a2⟩
      have hl := ((bt_RC d.1 hxn i).mp a1).lt d.1 hxn
      exact ⟨hl, a1, a2 hl⟩
    · rintro ⟨a1, a2, a3⟩
      exact ⟨a2, fun _ => a3⟩
  rw [this]
  exact OR.same h rfl rfl
