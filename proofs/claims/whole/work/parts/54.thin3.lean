theorem x_thinnest {h : AH} {p : PD} {s : SD} (c : XC h p s) {x : Nat} (hx : x < p.n) : f_X0_thinnestFrom (nI x) h = some (oI (tU (cnd p (RC p s x)) (uc p s) p.n), h) := by
  unfold f_X0_thinnestFrom
  rw [x_reach c hx, bd_some, x_bits1 c, bd_some, x_thinL c, bd_some]
  rfl
theorem oI_n9 {p : PD} (hn : p.n ≤ 10) {y : Nat} (hy : y < p.n) : ¬ nI y = -9 := by
  intro z
  have := congrArg Int32.toInt z
  rw [nI_toInt (by omega)] at this
  have h2 : (-9 : Int32).toInt = -9 := rfl
  omega
theorem e_thin : E1 Rel f_X11_thin f_X12_thin := by
  intro a hx hm h
  show OR _ _
  obtain ⟨b, p, s, d⟩ := h
  have h : Rel hx hm := ⟨b, p, s, d⟩
  have hn := d.1.n10
  unfold f_X11_thin f_X12_thin
  rw [x_isClaim d.x, m_isClaim d.m, bd_some, bd_some, if10, if10]
  by_cases hb : inb a p.n = true
  rotate_left
  · rw [if_neg hb, if_neg hb]; exact OR.same h rfl rfl
  obtain ⟨x, hxn, rfl⟩ := inb_ex hb
  rw [if_pos hb, if_pos hb, x_thinnest d.x hxn, bd_some, m_comesTo d.m hxn, bd_some, d.m.n, nI_sub1 (by omega), m_thinL d.m _ (by omega), bd_some, ← tU_tD]
  unfold c_X12_thin_51
  have hg := tU_g (cnd p (RC p s x)) (uc p s) p.n
  generalize tU (cnd p (RC p s x)) (uc p s) p.n = q at hg
  cases q with
  | none =>
    show OR (if (-9 : Int32) = -9 then _ else _) (if (-9 : Int32) = -9 then _ else _)
    rw [if_pos rfl, if_pos rfl]
    exact OR.same h rfl rfl
  | some y =>
    have hy := hg.2.1
    have n9 := oI_n9 hn hy
    show OR (if nI y = -9 then _ else _) (if nI y = -9 then _ else _)
    rw [if_neg n9, if_neg n9]
    show OR (bd (f_X0_usableFor (nI y) hx) _) (bd (f_X12_usableFor (nI y) hm) _)
    rw [x_usableFor d.x (by omega), m_usableFor d.m (by omega), bd_some, bd_some, x_bc, bd_some, m_bitsUF d.1, bd_some, m_tells, bd_some, bc_UF d.1]
    exact OR.told h _ rfl rfl
