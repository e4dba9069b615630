/-! ===== mark ===== -/
theorem sub_RW {p : PD} (v : PV p) (x : Nat) : sub (RW p x) 14 := fun i hi => by
  have := sub_ms _ _ (by have := v.m14; omega) i hi
  have := v.m14
  omega
theorem sub_LS {p : PD} (v : PV p) (s : SD) : sub (LSt p s) 14 := fun i hi => by
  have := sub_ms _ _ (by have := v.n10; omega) i hi
  have := v.n10
  omega
theorem sub_and {a b : Int32} {n : Nat} (h : sub a n) : sub (a &&& b) n := fun i hi => by
  rw [bt_and, Bool.and_eq_true] at hi
  exact h i hi.1
theorem sub_or {a b : Int32} {n : Nat} (h : sub a n) (g : sub b n) : sub (a ||| b) n := fun i hi => by
  rw [bt_or, Bool.or_eq_true] at hi
  exact hi.elim (h i) (g i)
theorem sub_up {a : Int32} {n m : Nat} (h : sub a n) (e : n ≤ m) : sub a m := fun i hi => Nat.lt_of_lt_of_le (h i hi) e
theorem sub_ST {p : PD} (v : PV p) (g r : Nat → Bool) : sub (ST p g r) p.n := fun _ hi => ((bt_ST v g r _).mp hi).lt v
theorem sub_KB {p : PD} (v : PV p) (j : Nat) : sub (KB p j) p.n := sub_ms _ _ (by have := v.n10; omega)
theorem bt_ACt {p : PD} (v : PV p) (i : Nat) : bt (ACt p) i = (decide (i < p.n) && (decide (p.ki i = 3) || decide (p.ki i = 5))) := by
  unfold ACt
  rw [bt_or, bt_KB v, bt_KB v, ← Bool.and_or_distrib_left]
/-- what mark answers -/
noncomputable def mkv (p : PD) (s : SD) (x w : Nat) : Int32 := if w = 1 then bc (RW p x) else if w = 2 then bc (LSt p s &&& (s.aw ^^^ (-1))) else if w = 3 then bc (FS p s x) else if w = 4 then (if bt s.kn x = true then 1 else 0) else bc (ACt p)
/-- whether a claim is of a kind -/
def isK (p : PD) (x w : Nat) : Bool := decide (p.ki x = w) || ((decide (w = 1) && decide (p.ki x = 2)) || (decide (w = 3) && decide (p.ki x = 5)))
set_option maxHeartbeats 1000000 in
theorem x_mark {h : AH} {p : PD} {s : SD} (c : XC h p s) {x w : Nat} (hx : x < p.n) (h1 : 1 ≤ w) (h5 : w ≤ 5) : f_X11_mark (nI x) (nI w) h = if isK p x w = true then some (mkv p s x w, h) else some (-3, hxF h 3) := by
  have hn := c.1.n10
  have hb : inb (nI x) p.n = true := inb_nI hx (by omega)
  have hw : w = 1 ∨ w = 2 ∨ w = 3 ∨ w = 4 ∨ w = 5 := by omega
  unfold f_X11_mark
  simp only [x_isClaim c, bd_some, if10, if_pos hb, if_neg (show ¬ nI w < 1 from fun z => by rw [show (1 : Int32) = nI 1 from rfl, nI_ltI (by omega) (by omega)] at z; omega), if_pos (show nI w < 6 from nI_lt (b := 6) (by omega) (by omega)), x_ref3, x_reasonsWith c (show x < 32 by omega), x_bc, x_lossBits c, c.aw, x_falling c, c.kn, x_bit _ (show x < 32 by omega), x_bits3 c]
  rcases hw with rfl | rfl | rfl | rfl | rfl
  · rw [show nI 1 = 1 from rfl, x_bits1 c, bd_some, x_has _ (by omega), bd_some, if10, btEN c.1, decide_eq_true hx, Bool.true_and]
    simp only [x_reasonsWith c (show x < 32 by omega), bd_some, x_lossBits c, c.aw, x_falling c, c.kn, x_bits3 c]
    unfold isK mkv
    simp
  · rw [show nI 2 = 2 from rfl, x_bits2 c, bd_some, x_has _ (by omega), bd_some, if10, bt_KB c.1, decide_eq_true hx, Bool.true_and]
    simp only [x_reasonsWith c (show x < 32 by omega), bd_some, x_lossBits c, c.aw, x_falling c, c.kn, x_bits3 c]
    unfold isK mkv
    simp
  · rw [show nI 3 = 3 from rfl, x_bits3 c, bd_some, x_has _ (by omega), bd_some, if10, bt_ACt c.1, decide_eq_true hx, Bool.true_and]
    simp only [x_reasonsWith c (show x < 32 by omega), bd_some, x_lossBits c, c.aw, x_falling c, c.kn, x_bits3 c]
    unfold isK mkv
    simp
  · rw [show nI 4 = 4 from rfl, x_bits4 c, bd_some, x_has _ (by omega), bd_some, if10, bt_KB c.1, decide_eq_true hx, Bool.true_and]
    simp only [x_reasonsWith c (show x < 32 by omega), bd_some, x_lossBits c, c.aw, x_falling c, c.kn, x_bits3 c]
    unfold isK mkv
    simp
  · rw [show nI 5 = 5 from rfl, x_bits5 c, bd_some, x_has _ (by omega), bd_some, if10, bt_KB c.1, decide_eq_true hx, Bool.true_and]
    simp only [x_reasonsWith c (show x < 32 by omega), bd_some, x_lossBits c, c.aw, x_falling c, c.kn, x_bits3 c]
    unfold isK mkv
    simp
set_option maxHeartbeats 1000000 in
theorem m_mark {h : AH} {p : PD} {s : SD} (c : MC h p s) {x w : Nat} (hx : x < p.n) (h1 : 1 ≤ w) (h5 : w ≤ 5) : f_X12_mark (nI x) (nI w) h = if isK p x w = true then some (mkv p s x w, h) else some (-3, hmF h 3) := by
  have hn := c.1.n10
  have hk := c.1.ki5 hx
  have hb : inb (nI x) p.n = true := inb_nI hx (by omega)
  have hw : w = 1 ∨ w = 2 ∨ w = 3 ∨ w = 4 ∨ w = 5 := by omega
  have s1 : f_X12_bits (RW p x) h = some (bc (RW p x), h) := m_bits (by omega) (sub_RW c.1 x) h
  have s2 : f_X12_bits (LSt p s &&& (s.aw ^^^ (-1))) h = some (bc (LSt p s &&& (s.aw ^^^ (-1))), h) := m_bits (n := 14) (by omega) (sub_and (sub_LS c.1 s)) h
  have s3 : f_X12_bits (FS p s x) h = some (bc (FS p s x), h) := m_bits (n := p.n) (by omega) (sub_and (sub_and (sub_ST c.1 _ _))) h
  have s5 : f_X12_bits (ACt p) h = some (bc (ACt p), h) := m_bits (n := p.n) (by omega) (sub_or (sub_KB c.1 _) (sub_KB c.1 _)) h
  have hin : f_X12_in (nI w) 1 5 h = some (1, h) := by
    rw [m_in, if_pos]
    rw [nI_toInt (by omega)]
    show (1 : Int) ≤ w ∧ (w : Int) ≤ 5
    omega
  have hk6 : p.ki x = 0 ∨ p.ki x = 1 ∨ p.ki x = 2 ∨ p.ki x = 3 ∨ p.ki x = 4 ∨ p.ki x = 5 := by omega
  unfold f_X12_mark
  simp only [m_isClaim c, bd_some, if10, if_pos hb, if_neg i10, hin, if_pos (inb_nI (show x < 10 by omega) (show 10 ≤ 100000 by omega)), nI_cl (show x < 100000 by omega), c.ki hx, m_me3, m_reasonsWith c (show x < 32 by omega), s1, m_lossSet c, c.aw, s2, m_fallSet c, s3, c.kn, m_has _ (show x < 32 by omega), m_actSet c, s5, if_some]
  unfold isK mkv
  rcases hw with rfl | rfl | rfl | rfl | rfl <;> rcases hk6 with e | e | e | e | e | e <;> rw [e] <;> rfl
theorem e_mark : E2 Rel f_X11_mark f_X12_mark := by
  intro a0 a1 hx hm h
  show OR _ _
  obtain ⟨b, p, s, d⟩ := h
  have h : Rel hx hm := ⟨b, p, s, d⟩
  have hn := d.1.n10
  by_cases hb : inb a0 p.n = true
  rotate_left
  · refine OR.same h (r := -1) ?_ ?_
    · unfold f_X11_mark
      rw [x_isClaim d.x, bd_some, if10, if_neg hb]
    · unfold f_X12_mark
      rw [m_isClaim d.m, bd_some, if10, if_neg hb]
  obtain ⟨x, hxn, rfl⟩ := inb_ex hb
  have e1 : (1 : Int32).toInt = 1 := rfl
  have e5 : (5 : Int32).toInt = 5 := rfl
  have e6 : (6 : Int32).toInt = 6 := rfl
  by_cases hc : 1 ≤ a1.toInt ∧ a1.toInt ≤ 5
  rotate_left
  · refine OR.same h (r := -1) ?_ ?_
    · unfold f_X11_mark
      rw [x_isClaim d.x, bd_some, if10, if_pos hb]
      by_cases z : a1 < 1
      · rw [if_pos z]
      · rw [if_neg z, if_neg]
        rw [i_lt, e1] at z
        rw [i_lt, e6]
        omega
    · unfold f_X12_mark
      rw [m_isClaim d.m, bd_some, if10, if_pos hb, m_in, bd_some, if10, if_neg (by rw [e1, e5]; exact hc)]
  obtain ⟨w, hw, rfl⟩ := ni_of (x := a1) (N := 5) (by omega) (by omega)
  rw [nI_toInt (by omega)] at hc
  rw [x_mark d.x hxn (by omega) hw, m_mark d.m hxn (by omega) hw]
  by_cases q : isK p x w = true
  · rw [if_pos q, if_pos q]; exact OR.same h rfl rfl
  · rw [if_neg q, if_neg q]; exact OR.find h (f := 3) (by omega) rfl rfl
