theorem add0 (x : Int32) : x + 0 = x := Int32.add_zero x
theorem wlit {w : Nat} (hw : w < 9) (q : Nat) (hq : q < 9) : (nI w = nI q) ↔ w = q := nI_eq (by omega) (by omega)
theorem m_cnt1 {h : AH} {p : PD} {s : SD} (c : MC h p s) {w : Nat} (hw : w < 9) : l_X12_counted_4 FU (nI w) 0 0 h = some (if w = 5 then nI (cnt (isE p) p.n) else 0, h) := by
  have hn := c.1.n10
  have := lp0 (fun F j => l_X12_counted_4 F (nI w) (if w = 5 then nI (cnt (isE p) j) else 0) (nI j) h) p.n (some (if w = 5 then nI (cnt (isE p) p.n) else 0, h)) (by
    intro F j hj
    show b_X12_counted_4 (l_X12_counted_4 F) (nI w) _ (nI j) h = _
    unfold b_X12_counted_4
    rw [c.n, if_neg (nI_ge hj (by omega)), m_isEnd c hj, bd_some, if10, nI_1, show (5 : Int32) = nI 5 from rfl]
    by_cases e : w = 5
    · rw [if_pos ((wlit hw 5 (by omega)).mpr e), if_pos e, if_pos e]
      by_cases f : isE p j = true
      · rw [if_pos f, cnt_s1 f]
      · rw [if_neg f, cnt_s0 f]
    · rw [if_neg (fun z => e ((wlit hw 5 (by omega)).mp z)), if_neg e, if_neg e, add0]) (by
    intro F
    show b_X12_counted_4 (l_X12_counted_4 F) (nI w) _ (nI p.n) h = _
    unfold b_X12_counted_4
    rw [c.n, if_pos (Int32.le_refl _)]) (by omega)
  have h0 : (if w = 5 then nI (cnt (isE p) 0) else 0) = 0 := by split <;> rfl
  rw [nI_0, h0] at this
  exact this
theorem m_cnt2 {hx h : AH} (b : Bk hx h) {w : Nat} (hw : w < 9) {A : Int32} (hA : w = 6 → A = 0) : l_X12_counted_25 FU (nI w) A 0 h = some (if w = 6 then nI (cnt (hasR h) 6) else A, h) := by
  have := lp0 (fun F j => l_X12_counted_25 F (nI w) (if w = 6 then nI (cnt (hasR h) j) else A) (nI j) h) 6 (some (if w = 6 then nI (cnt (hasR h) 6) else A, h)) (by
    intro F j hj
    show b_X12_counted_25 (l_X12_counted_25 F) (nI w) _ (nI j) h = _
    unfold b_X12_counted_25
    rw [if_neg (show ¬ (6 : Int32) ≤ nI j from nI_ge (b := 6) hj (by omega)), if_pos (inb_nI hj (by omega)), nI_cl (by omega), nI_1]
    by_cases e : w = 6
    · rw [if_pos (show nI w = 6 from (wlit hw 6 (by omega)).mpr e), if_pos e, if_pos e]
      rcases b.row hj with ⟨-, e2⟩ | ⟨n, -, -, e2, f, -, k⟩
      · rw [if_pos (by rw [e2]; decide), cnt_s0 (by unfold hasR; rw [e2]; decide)]
      · rw [if_neg (by rw [e2]; exact k), cnt_s1 (by unfold hasR; rw [e2, decide_eq_false f]; rfl)]
    · rw [if_neg (show ¬ nI w = 6 from fun z => e ((wlit hw 6 (by omega)).mp z)), if_neg e, if_neg e, add0]) (by
    intro F
    show b_X12_counted_25 (l_X12_counted_25 F) (nI w) _ (nI 6) h = _
    unfold b_X12_counted_25
    rw [if_pos (show (6 : Int32) ≤ nI 6 from Int32.le_refl _)]) (by omega)
  have h0 : (if w = 6 then nI (cnt (hasR h) 0) else A) = A := by
    split
    · rename_i e; rw [hA e]; rfl
    · rfl
  rw [nI_0, h0] at this
  exact this
theorem m_cnt3 {hx h : AH} (b : Bk hx h) {w : Nat} (hw : w < 9) {A : Int32} (hA : w = 7 → A = 0) : l_X12_counted_46 FU (nI w) A 0 h = some (if w = 7 then nI (cnt (hasT h) 4) else A, h) := by
  have := lp0 (fun F j => l_X12_counted_46 F (nI w) (if w = 7 then nI (cnt (hasT h) j) else A) (nI j) h) 4 (some (if w = 7 then nI (cnt (hasT h) 4) else A, h)) (by
    intro F j hj
    show b_X12_counted_46 (l_X12_counted_46 F) (nI w) _ (nI j) h = _
    unfold b_X12_counted_46
    rw [if_neg (show ¬ (4 : Int32) ≤ nI j from nI_ge (b := 4) hj (by omega)), if_pos (inb_nI hj (by omega)), nI_cl (by omega), nI_1]
    by_cases e : w = 7
    · rw [if_pos (show nI w = 7 from (wlit hw 7 (by omega)).mpr e), if_pos e, if_pos e]
      rcases b.text hj with ⟨-, e2⟩ | ⟨n, -, -, e2, f, -, k⟩
      · rw [if_pos (by rw [e2]; decide), cnt_s0 (by unfold hasT; rw [e2]; decide)]
      · rw [if_neg (by rw [e2]; exact k), cnt_s1 (by unfold hasT; rw [e2, decide_eq_false f]; rfl)]
    · rw [if_neg (show ¬ nI w = 7 from fun z => e ((wlit hw 7 (by omega)).mp z)), if_neg e, if_neg e, add0]) (by
    intro F
    show b_X12_counted_46 (l_X12_counted_46 F) (nI w) _ (nI 4) h = _
    unfold b_X12_counted_46
    rw [if_pos (show (4 : Int32) ≤ nI 4 from Int32.le_refl _)]) (by omega)
  have h0 : (if w = 7 then nI (cnt (hasT h) 0) else A) = A := by
    split
    · rename_i e; rw [hA e]; rfl
    · rfl
  rw [nI_0, h0] at this
  exact this
theorem m_cnt4 {h : AH} {w : Nat} (hw : w < 9) {A : Int32} (hA : w = 8 → A = 0) : l_X12_counted_67 FU (nI w) A 0 h = some (if w = 8 then nI (cnt (hasI h) 3) else A, h) := by
  have := lp0 (fun F j => l_X12_counted_67 F (nI w) (if w = 8 then nI (cnt (hasI h) j) else A) (nI j) h) 3 (some (if w = 8 then nI (cnt (hasI h) 3) else A, h)) (by
    intro F j hj
    show b_X12_counted_67 (l_X12_counted_67 F) (nI w) _ (nI j) h = _
    unfold b_X12_counted_67
    rw [if_neg (show ¬ (3 : Int32) ≤ nI j from nI_ge (b := 3) hj (by omega)), if_pos (inb_nI hj (by omega)), nI_cl (by omega), nI_1]
    by_cases e : w = 8
    · rw [if_pos (show nI w = 8 from (wlit hw 8 (by omega)).mpr e), if_pos e, if_pos e]
      by_cases f : h.1 50 0 j = 0
      · rw [if_pos f, cnt_s0 (by unfold hasI; rw [f]; decide)]
      · rw [if_neg f, cnt_s1 (by unfold hasI; rw [decide_eq_false f]; rfl)]
    · rw [if_neg (show ¬ nI w = 8 from fun z => e ((wlit hw 8 (by omega)).mp z)), if_neg e, if_neg e, add0]) (by
    intro F
    show b_X12_counted_67 (l_X12_counted_67 F) (nI w) _ (nI 3) h = _
    unfold b_X12_counted_67
    rw [if_pos (show (3 : Int32) ≤ nI 3 from Int32.le_refl _)]) (by omega)
  have h0 : (if w = 8 then nI (cnt (hasI h) 0) else A) = A := by
    split
    · rename_i e; rw [hA e]; rfl
    · rfl
  rw [nI_0, h0] at this
  exact this
theorem m_counted {hx h : AH} {p : PD} {s : SD} (b : Bk hx h) (c : MC h p s) {w : Nat} (hw : w < 9) : f_X12_counted (nI w) h = some (hwm h p s w, h) := by
  have hn := c.1.n10
  have s3 : f_X12_bits s.aw h = some (bc s.aw, h) := m_bits (n := p.n) (by omega) c.2.1.1 h
  have s4 : f_X12_bits s.kn h = some (bc s.kn, h) := m_bits (n := p.n) (by omega) (fun i hi => (c.2.1.2.1 i hi).1) h
  unfold f_X12_counted
  rw [m_cnt1 c hw, bd_some]
  unfold c_X12_counted_23
  rw [m_cnt2 b hw (by rintro rfl; rfl), bd_some]
  unfold c_X12_counted_44
  rw [m_cnt3 b hw (by rintro rfl; rfl), bd_some]
  unfold c_X12_counted_65
  rw [m_cnt4 hw (by rintro rfl; rfl), bd_some]
  unfold c_X12_counted_86
  rw [c.n, c.m, m_answerMany c, bd_some, c.aw, s3, bd_some, c.kn, s4, bd_some]
  match w, hw with
  | 0, _ => rfl
  | 1, _ => rfl
  | 2, _ => rfl
  | 3, _ => rfl
  | 4, _ => rfl
  | 5, _ => rfl
  | 6, _ => rfl
  | 7, _ => rfl
  | 8, _ => rfl
theorem e_count : E1 Rel f_X11_count f_X12_count := by
  intro a hx hm h
  show OR _ _
  obtain ⟨b, p, s, d⟩ := h
  have h : Rel hx hm := ⟨b, p, s, d⟩
  have m8 : f_X12_in a 0 8 hm = some (if inb a 9 = true then 1 else 0, hm) := m_inn (n := 9) (by omega) a hm
  unfold f_X11_count f_X12_count
  rw [m8, bd_some, if10]
  by_cases hb : inb a 9 = true
  · obtain ⟨w, hw, rfl⟩ := inb_ex hb
    rw [if_pos hb, if_neg (nI_pos (by omega)), if_pos (show nI w < 9 from nI_lt (b := 9) hw (by omega)), x_howMany b d hw, m_counted b d.m hw, bd_some, bd_some]
    exact OR.same h rfl rfl
  · have hh : ¬ (0 ≤ a.toInt ∧ a.toInt < (9 : Nat)) := fun z => hb (inb_iff.mpr z)
    rw [if_neg hb]
    by_cases z : a < 0
    · rw [if_pos z]; exact OR.same h rfl rfl
    · have z2 : ¬ a < 9 := by
        rw [i_lt0] at z
        rw [i_lt]
        show ¬ a.toInt < 9
        omega
      rw [if_neg z, if_neg z2]; exact OR.same h rfl rfl
