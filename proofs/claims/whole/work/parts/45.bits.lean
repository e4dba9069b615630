/-! ===== both count alike ===== -/
theorem sub_nI {x : Int32} {n : Nat} (hn : n ≤ 14) (h : sub x n) : ∃ v, v < 16384 ∧ x = nI v := by
  have hv : x.toBitVec.toNat < 2 ^ 14 := by
    apply Nat.lt_pow_two_of_testBit
    intro i hi
    cases e : x.toBitVec.toNat.testBit i
    · rfl
    · have : i < n := h i (by unfold bt; rw [← BitVec.testBit_toNat]; exact e)
      omega
  refine ⟨x.toBitVec.toNat, hv, ?_⟩
  apply Int32.toBitVec_inj.1
  show x.toBitVec = BitVec.ofNat 32 x.toBitVec.toNat
  simp
theorem bc_eq {x : Int32} {n : Nat} (hn : n ≤ 14) (h : sub x n) : bc x = nI (cnt (bt x) 14) := by
  obtain ⟨v, hv, rfl⟩ := sub_nI hn h
  have := bc_tab (v / 128) (by omega) (v % 128) (by omega)
  rw [show 128 * (v / 128) + v % 128 = v by omega] at this
  exact this
theorem cnt14 {x : Int32} : ∀ {n : Nat}, n ≤ 14 → sub x n → cnt (bt x) 14 = cnt (bt x) n := by
  intro n hn h
  have : ∀ d, cnt (bt x) (n + d) = cnt (bt x) n := by
    intro d
    induction d with
    | zero => rfl
    | succ d ih =>
      show cnt (bt x) (n + d) + (if bt x (n + d) = true then 1 else 0) = _
      rw [ih, if_neg (fun z => by have := h _ z; omega)]
      rfl
  have h2 := this (14 - n)
  rw [show n + (14 - n) = 14 by omega] at h2
  exact h2
theorem sub_nx {x : Int32} {n : Nat} (hn : n ≤ 14) (h : sub x n) : sub (nx x) n := by
  intro i hi
  unfold nx at hi
  rw [bt_and, Bool.and_eq_true] at hi
  exact h i hi.1
theorem nx_cnt' {x : Int32} {n : Nat} (hn : n ≤ 14) (h : sub x n) (h0 : ¬ x = 0) : cnt (bt (nx x)) 14 + 1 = cnt (bt x) 14 := by
  have e1 := bc_eq hn h
  have e2 := bc_eq hn (sub_nx hn h)
  obtain ⟨v, hv, rfl⟩ := sub_nI hn h
  have := nx_tab (v / 128) (by omega) (v % 128) (by omega)
  rw [show 128 * (v / 128) + v % 128 = v by omega] at this
  unfold nxok at this
  have hv0 : ¬ v = 0 := by rintro rfl; exact h0 rfl
  simp only [Bool.or_eq_true, beq_iff_eq, hv0, false_or, Bool.and_eq_true] at this
  rw [e1, e2, nI_1] at this
  have c1 := cnt_le (bt (nx (nI v))) 14
  have c2 := cnt_le (bt (nI v)) 14
  exact (nI_eq (by omega) (by omega)).mp this.1
theorem cnt0 {x : Int32} {n : Nat} (hn : n ≤ 14) (h : sub x n) : cnt (bt x) 14 = 0 ↔ x = 0 := by
  constructor
  · intro e
    apply Classical.byContradiction
    intro z
    have := nx_cnt' hn h z
    omega
  · rintro rfl
    have : ∀ n, cnt (bt 0) n = 0 := by
      intro n
      induction n with
      | zero => rfl
      | succ n ih =>
        show cnt (bt 0) n + _ = 0
        rw [ih, bt_0]
        rfl
    exact this 14
def nxi (x : Int32) : Nat → Int32
  | 0 => x
  | j + 1 => nx (nxi x j)
theorem m_bits {x : Int32} {n : Nat} (hn : n ≤ 14) (h : sub x n) (hp : AH) : f_X12_bits x hp = some (bc x, hp) := by
  have hs : ∀ j, sub (nxi x j) n := by
    intro j
    induction j with
    | zero => exact h
    | succ j ih => exact sub_nx hn ih
  have hc : ∀ j, j ≤ cnt (bt x) 14 → cnt (bt (nxi x j)) 14 = cnt (bt x) 14 - j := by
    intro j
    induction j with
    | zero => intro _; rfl
    | succ j ih =>
      intro hj
      have h1 := ih (by omega)
      have h2 := nx_cnt' hn (hs j) (fun z => by rw [← cnt0 hn (hs j)] at z; omega)
      show cnt (bt (nx (nxi x j))) 14 = _
      omega
  have c14 := cnt_le (bt x) 14
  unfold f_X12_bits
  have := lp0 (fun F j => l_X12_bits_4 F (nI j) (nxi x j) hp) (cnt (bt x) 14) (some (nI (cnt (bt x) 14), hp)) (by
    intro F j hj
    show b_X12_bits_4 (l_X12_bits_4 F) (nI j) (nxi x j) hp = _
    unfold b_X12_bits_4
    rw [if_neg, nI_1]
    · rfl
    · intro z
      rw [← cnt0 hn (hs j), hc j (by omega)] at z
      omega) (by
    intro F
    show b_X12_bits_4 (l_X12_bits_4 F) (nI (cnt (bt x) 14)) (nxi x (cnt (bt x) 14)) hp = _
    unfold b_X12_bits_4
    rw [if_pos]
    rw [← cnt0 hn (hs _), hc _ (Nat.le_refl _)]
    omega) (by omega)
  rw [nI_0] at this
  show bd (l_X12_bits_4 FU 0 (nxi x 0) hp) _ = _
  rw [this, bc_eq hn h]
  rfl
theorem e_reason : E2 Rel f_X11_reason f_X12_reason := by
  intro a0 a1 hx hm h
  show OR _ _
  obtain ⟨b, p, s, d⟩ := h
  have h : Rel hx hm := ⟨b, p, s, d⟩
  have hm14 := d.1.m14
  unfold f_X11_reason f_X12_reason
  simp only [x_isReason d.x, m_isReason d.m, bd_some, if10]
  by_cases hb : inb a0 p.m = true
  rotate_left
  · simp only [if_neg hb]; exact OR.same h rfl rfl
  obtain ⟨k, hk, rfl⟩ := inb_ex hb
  simp only [if_pos hb, m_in2, bd_some, if10]
  by_cases hc : inb a1 3 = true
  rotate_left
  · have hh : ¬ (0 ≤ a1.toInt ∧ a1.toInt < (3 : Nat)) := fun z => hc (inb_iff.mpr z)
    simp only [if_neg hc]
    by_cases z : a1 < 0
    · simp only [if_pos z]; exact OR.same h rfl rfl
    · have z2 : ¬ a1 < 3 := by
        rw [i_lt0] at z
        rw [i_lt]
        show ¬ a1.toInt < 3
        omega
      simp only [if_neg z, if_neg z2]; exact OR.same h rfl rfl
  obtain ⟨w, hw, rfl⟩ := inb_ex hc
  have hb14 : inb (nI k) 14 = true := inb_up hb hm14
  simp only [if_pos hc, if_neg (show ¬ nI w < 0 from nI_pos (by omega)), if_pos (show nI w < 3 from nI_lt (b := 3) hw (by omega)), f_X11_factOfReason, f_X12_reasonTells, if_pos hb14, nI_cl (show k < 100000 by omega), d.x.co hk, d.x.pa hk, d.x.su hk, d.m.co hk, d.m.pa hk, d.m.su hk]
  match w, hw with
  | 0, _ => exact OR.told h _ rfl rfl
  | 1, _ => exact OR.told h _ rfl rfl
  | 2, _ => exact OR.told h _ rfl rfl
/-- what is told of a claim -/
noncomputable def cT (p : PD) (s : SD) (x w : Nat) : Int32 := if w = 0 then nI (p.ki x) else if w = 1 then RF p x else if w = 2 then RW p x else if w = 3 then (if bt (SN p s) x = true then 1 else 0) else (if bt s.aw x = true then 1 else 0)
theorem x_fact {h : AH} {p : PD} {s : SD} (c : XC h p s) {x w : Nat} (hx : x < p.n) (hw : w < 5) : f_X11_factOfClaim (nI x) (nI w) h = some (cT p s x w, h) := by
  have hn := c.1.n10
  unfold f_X11_factOfClaim
  rw [if_pos (inb_nI (show x < 10 by omega) (by omega)), nI_cl (show x < 100000 by omega), c.ki hx, x_reasonsFor c (by omega), x_reasonsWith c (by omega), x_standing c, bd_some, bd_some, bd_some, x_bit _ (by omega), c.aw, x_bit _ (by omega), bd_some, bd_some]
  match w, hw with
  | 0, _ => rfl
  | 1, _ => rfl
  | 2, _ => rfl
  | 3, _ => rfl
  | 4, _ => rfl
theorem m_fact {h : AH} {p : PD} {s : SD} (c : MC h p s) {x w : Nat} (hx : x < p.n) (hw : w < 5) : f_X12_claimTells (nI x) (nI w) h = some (cT p s x w, h) := by
  have hn := c.1.n10
  unfold f_X12_claimTells
  rw [if_pos (inb_nI (show x < 10 by omega) (by omega)), nI_cl (show x < 100000 by omega), c.ki hx, m_reasonsFor c (by omega), m_reasonsWith c (by omega), m_standNow c, bd_some, bd_some, bd_some, m_has _ (by omega), c.aw, m_has _ (by omega), bd_some, bd_some, if10, if10, if_some, if_some]
  match w, hw with
  | 0, _ => rfl
  | 1, _ => rfl
  | 2, _ => rfl
  | 3, _ => rfl
  | 4, _ => rfl
theorem e_claim : E2 Rel f_X11_claim f_X12_claim := by
  intro a0 a1 hx hm h
  show OR _ _
  obtain ⟨b, p, s, d⟩ := h
  have h : Rel hx hm := ⟨b, p, s, d⟩
  unfold f_X11_claim f_X12_claim
  simp only [x_isClaim d.x, m_isClaim d.m, bd_some, if10]
  by_cases hb : inb a0 p.n = true
  rotate_left
  · simp only [if_neg hb]; exact OR.same h rfl rfl
  obtain ⟨x, hxn, rfl⟩ := inb_ex hb
  have m4 : f_X12_in a1 0 4 hm = some (if inb a1 5 = true then 1 else 0, hm) := m_inn (n := 5) (by omega) a1 hm
  simp only [if_pos hb, m4, bd_some, if10]
  by_cases hc : inb a1 5 = true
  rotate_left
  · have hh : ¬ (0 ≤ a1.toInt ∧ a1.toInt < (5 : Nat)) := fun z => hc (inb_iff.mpr z)
    simp only [if_neg hc]
    by_cases z : a1 < 0
    · simp only [if_pos z]; exact OR.same h rfl rfl
    · have z2 : ¬ a1 < 5 := by
        rw [i_lt0] at z
        rw [i_lt]
        show ¬ a1.toInt < 5
        omega
      simp only [if_neg z, if_neg z2]; exact OR.same h rfl rfl
  obtain ⟨w, hw, rfl⟩ := inb_ex hc
  simp only [if_pos hc, if_neg (show ¬ nI w < 0 from nI_pos (by omega)), if_pos (show nI w < 5 from nI_lt (b := 5) hw (by omega)), x_fact d.x hxn hw, m_fact d.m hxn hw, bd_some, m_tells]
  exact OR.told h _ rfl rfl
