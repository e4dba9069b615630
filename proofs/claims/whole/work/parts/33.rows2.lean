/-! ===== copy, mean, texts ===== -/
theorem x_spans {r n : Nat} (hn : n ≤ 40) {h : AH} (e : h.1 2 r 1 = nI n) (x : Int32) {y : Int32} (hy : 0 ≤ y) : f_X5_spans r x y h = some (if 0 ≤ x.toInt ∧ x.toInt + y.toInt ≤ n then 1 else 0, h) := by
  unfold f_X5_spans
  rw [e]
  have hy' := (lt_i0 y).mp hy
  have h0 : (x < 0) ↔ x.toInt < 0 := i_lt x 0
  have h1 : (nI n < y) ↔ (n : Int) < y.toInt := by rw [i_lt, nI_toInt (by omega)]
  by_cases a : x < 0
  · rw [if_pos a, if_neg (by rw [h0] at a; omega)]; rfl
  · rw [if_neg a]
    by_cases b : nI n < y
    · rw [if_pos b, if_neg (by rw [h1] at b; rw [h0] at a; omega)]; rfl
    · rw [if_neg b]
      rw [h1] at b
      rw [h0] at a
      have e3 : (nI n - y).toInt = (n : Int) - y.toInt := by
        obtain ⟨m, hm, rfl⟩ := ni_of (x := y) (N := n) hy' (by omega)
        have : nI n = nI (n - m) + nI m := by rw [nI_add]; congr 1; omega
        rw [this, Int32.add_sub_cancel, nI_toInt (by omega), nI_toInt (by omega)]; omega
      have h2 : (nI n - y < x) ↔ (n : Int) - y.toInt < x.toInt := by rw [i_lt, e3]
      by_cases c : nI n - y < x
      · rw [if_pos c, if_neg (by rw [h2] at c; omega)]; rfl
      · rw [if_neg c, if_pos (by rw [h2] at c; omega)]; rfl
theorem lgc_pos (x y : Int64) : (0 < lg_cmp x y) ↔ y.toInt < x.toInt := by
  unfold lg_cmp
  have h1 : (x > y) ↔ y.toInt < x.toInt := Int64.lt_iff_toInt_lt
  by_cases a : x > y
  · rw [if_pos a, ← h1]; exact ⟨fun _ => a, fun _ => by decide⟩
  · rw [if_neg a, ← h1]
    by_cases b : x = y
    · rw [if_pos b]; exact ⟨fun z => absurd z (by decide), fun z => absurd z a⟩
    · rw [if_neg b]; exact ⟨fun z => absurd z (by decide), fun z => absurd z a⟩
theorem lgc_le (x y : Int64) : (lg_cmp x y ≤ 0) ↔ x.toInt ≤ y.toInt := by
  have h := lgc_pos x y
  have h2 : (lg_cmp x y ≤ 0) ↔ ¬ 0 < lg_cmp x y := by rw [i_le, i_lt]; omega
  rw [h2, h]; omega
theorem l_add32 (x y : Int32) : (x.toInt64 + y.toInt64).toInt = x.toInt + y.toInt := by
  have hx := i_rng x
  have hy := i_rng y
  rw [Int64.toInt_add, Int32.toInt_toInt64, Int32.toInt_toInt64]
  apply Int.bmod_eq_of_le <;> omega
theorem m_copy1 {r i n : Nat} (hr : r < 6) (hi : i + n ≤ 40) (x3 x4 : Int32) (h : AH) : l_X12_copy_62 FU (nI r) (nI i) x3 x4 (nI n) 0 h = some ((), hfl h 38 0 0 n (fun q => h.1 37 0 (40 * r + (i + q)))) := by
  have := lp0 (fun F j => l_X12_copy_62 F (nI r) (nI i) x3 x4 (nI n) (nI j) (hfl h 38 0 0 j (fun q => h.1 37 0 (40 * r + (i + q))))) n (some ((), hfl h 38 0 0 n (fun q => h.1 37 0 (40 * r + (i + q))))) (by
    intro F j hj
    show b_X12_copy_62 (l_X12_copy_62 F) (nI r) (nI i) x3 x4 (nI n) (nI j) _ = _
    unfold b_X12_copy_62
    rw [if_neg (nI_ge hj (by omega)), nI_add, m_rowAt hr (by omega), bd_some, if_pos (inb_nI (by omega) (by omega)), nI_cl (by omega), nI_1, hfl_k (by decide)]
    exact congrArg _ (hfl_s0 h 38 0 j (fun q => h.1 37 0 (40 * r + (i + q))))) (by
    intro F
    show b_X12_copy_62 (l_X12_copy_62 F) (nI r) (nI i) x3 x4 (nI n) (nI n) _ = _
    unfold b_X12_copy_62
    rw [if_pos (Int32.le_refl _)]) (by omega)
  rw [hfl_0, nI_0] at this
  exact this
theorem m_copy2 {r i n : Nat} (hr : r < 6) (hi : i + n ≤ 40) (h : AH) : l_X12_copy_79 FU (nI r) (nI i) (nI n) 0 h = some ((), hfl h 37 0 (40 * r + i) n (fun q => h.1 38 0 q)) := by
  have := lp0 (fun F j => l_X12_copy_79 F (nI r) (nI i) (nI n) (nI j) (hfl h 37 0 (40 * r + i) j (fun q => h.1 38 0 q))) n (some ((), hfl h 37 0 (40 * r + i) n (fun q => h.1 38 0 q))) (by
    intro F j hj
    show b_X12_copy_79 (l_X12_copy_79 F) (nI r) (nI i) (nI n) (nI j) _ = _
    unfold b_X12_copy_79
    rw [if_neg (nI_ge hj (by omega)), if_pos (inb_nI (by omega) (by omega)), ix40, nI_add, if_pos (inb_nI (by omega) (by omega)), nI_cl (by omega), nI_cl (by omega), nI_1, hfl_k (by decide)]
    exact congrArg _ (hfl_s h 37 0 (40 * r + i) j (fun q => h.1 38 0 q))) (by
    intro F
    show b_X12_copy_79 (l_X12_copy_79 F) (nI r) (nI i) (nI n) (nI n) _ = _
    unfold b_X12_copy_79
    rw [if_pos (Int32.le_refl _)]) (by omega)
  rw [hfl_0, nI_0] at this
  exact this
theorem neg1l : (-1 : Int32) < 0 := by decide
theorem i_lt0 (x : Int32) : (x < 0) ↔ x.toInt < 0 := by rw [i_lt]; rfl
set_option maxHeartbeats 1000000 in
theorem o_copy {hx hm : AH} (h : Bk hx hm) (a0 a1 a2 a3 a4 : Int32) : OB hx hm (f_X11_copy a0 a1 a2 a3 a4 hx) (f_X12_copy a0 a1 a2 a3 a4 hm) := by
  unfold f_X11_copy f_X12_copy
  simp only [x_isRow, m_isRow, bd_some, x_ref1, m_me1, x_ref2, m_me2, x_ref5, m_me5]
  by_cases hb : inb a0 6 = true
  rotate_left
  · simp only [if_neg hb, if_true]
    exact OB.same h rfl rfl
  by_cases hc : inb a2 6 = true
  rotate_left
  · simp only [if_pos hb, if_neg hc, if_neg i10, if_true]
    exact OB.same h rfl rfl
  obtain ⟨r, hr, rfl⟩ := inb_ex hb
  obtain ⟨t, ht, rfl⟩ := inb_ex hc
  simp only [if_pos hb, if_pos hc, if_neg i10, nI_cl (show r < 100000 by omega), nI_cl (show t < 100000 by omega), x_isMiss, bd_some]
  by_cases h0 : 0 ≤ a4
  rotate_left
  · simp only [if_neg h0]
    exact OB.find h (f := 5) (by omega) rfl rfl
  simp only [if_pos h0]
  rcases h.row hr with ⟨e1, e2⟩ | ⟨n, hn, e1, e2, f, g, k⟩
  · simp only [e1, e2, if_true, if_neg i10, if_pos neg1l]
    exact OB.find h (f := 1) (by omega) rfl rfl
  rcases h.row ht with ⟨c1, c2⟩ | ⟨m, hm', c1, c2, f', g', k'⟩
  · simp only [e1, e2, c1, c2, if_true, if_neg i10, if_neg neg1, if_neg f, if_pos g, if_neg k]
    exact OB.find h (f := 1) (by omega) rfl rfl
  simp only [e1, e2, c1, c2, if_true, if_neg i10, if_neg f, if_pos g, if_neg k, if_neg f', if_pos g', if_neg k', x_spans hn e1 a1 h0, x_spans hm' c1 a3 h0, bd_some]
  simp only [i_lt0, lgc_pos, lgc_le, l_add32, Int32.toInt_toInt64, nI_toInt (show n < 2 ^ 31 by omega), nI_toInt (show m < 2 ^ 31 by omega)]
  have h0' := (lt_i0 a4).mp h0
  by_cases s1 : 0 ≤ a1.toInt ∧ a1.toInt + a4.toInt ≤ n
  rotate_left
  · have M : (if a1.toInt < 0 then some ((-3 : Int32), hmF hm 2) else if a3.toInt < 0 then some (-3, hmF hm 2) else if (n : Int) < a1.toInt + a4.toInt then some (-3, hmF hm 2) else if a3.toInt + a4.toInt ≤ (m : Int) then bd (l_X12_copy_62 FU (nI r) a1 (nI t) a3 a4 0 hm) (fun v h => c_X12_copy_77 (nI t) a3 a4 h) else some (-3, hmF hm 2)) = some ((-3 : Int32), hmF hm 2) := by
      split
      · rfl
      · split
        · rfl
        · rw [if_pos (by omega)]
    simp only [if_neg s1, if_true]
    exact OB.find h (f := 2) (by omega) rfl M
  by_cases s2 : 0 ≤ a3.toInt ∧ a3.toInt + a4.toInt ≤ m
  rotate_left
  · simp only [if_pos s1, if_neg s2, if_neg i10, if_true, if_neg (show ¬ a1.toInt < 0 by omega), if_neg (show ¬ (n : Int) < a1.toInt + a4.toInt by omega)]
    refine OB.find h (f := 2) (by omega) rfl ?_
    by_cases a : a3.toInt < 0
    · rw [if_pos a]
    · rw [if_neg a, if_neg (by omega)]
  simp only [if_pos s1, if_pos s2, if_neg i10, if_neg (show ¬ a1.toInt < 0 by omega), if_neg (show ¬ a3.toInt < 0 by omega), if_neg (show ¬ (n : Int) < a1.toInt + a4.toInt by omega), if_pos s2.2]
  obtain ⟨i, hi, rfl⟩ := ni_of (x := a1) (N := 40) s1.1 (by omega)
  obtain ⟨j, hj, rfl⟩ := ni_of (x := a3) (N := 40) s2.1 (by omega)
  obtain ⟨c, hc', rfl⟩ := ni_of (x := a4) (N := 40) h0' (by omega)
  rw [nI_toInt (by omega), nI_toInt (by omega)] at s1 s2
  simp only [nI_toInt (show i < 2 ^ 31 by omega), nI_toInt (show j < 2 ^ 31 by omega), nI_toInt (show c < 2 ^ 31 by omega), nI_cl (show i < 100000 by omega), nI_cl (show j < 100000 by omega), nI_cl (show c < 100000 by omega)]
  rw [if_pos (by omega), m_copy1 hr (by omega), bd_some]
  unfold c_X12_copy_77
  rw [m_copy2 ht (by omega), bd_some]
  unfold c_X12_copy_98
  refine ⟨1, _, _, rfl, rfl, ⟨h.1.fr ?_ ?_ ?_ ?_ ?_ ?_, h.2.1.upd ht ?_ ?_ ?_ ?_ ?_ ?_ ?_, h.2.2.fr ?_ ?_ ?_ ?_⟩, KX.rfl.cp ?_ ?_, (KM.rfl.fl ?_ ?_ ?_).fl ?_ ?_ ?_⟩
  all_goals try omega
  · exact hcp_k (by decide)
  · exact hcp_k (by decide)
  · rfl
  · intro q hq
    rw [hfl_k (by decide), hfl_k (by decide)]
  · rw [hfl_k (by decide), hfl_k (by decide)]
  · rfl
  · intro q hq
    rw [hcp_k (by decide)]
  · intro q hq
    rw [hfl_k (by decide), hfl_k (by decide)]
  · intro q hq y
    rw [hcp_1, if_neg (by omega)]
  · intro q hq
    rw [hfl_1, if_neg (by omega), hfl_k (by decide)]
  · rw [hcp_k (by decide), hfl_k (by decide), hfl_k (by decide)]
    exact (h.2.1 t ht).1
  · rw [hfl_k (by decide), hfl_k (by decide)]
    exact (h.2.1 t ht).2.1
  · intro q hq
    rw [hcp_1, hfl_1]
    by_cases hqi : j ≤ q ∧ q < j + c
    · rw [if_pos (by omega), if_pos (by omega), hfl_1, if_pos (by omega), (h.2.1 r hr).2.2 _ (by omega)]
      show hm.1 37 0 (40 * r + (i + (q - j))) = hm.1 37 0 (40 * r + (i + (40 * t + q - (40 * t + j) - 0)))
      rw [show 40 * t + q - (40 * t + j) - 0 = q - j by omega]
    · rw [if_neg (by omega), if_neg (by omega), hfl_k (by decide)]
      exact (h.2.1 t ht).2.2 q hq
  · exact hcp_k (by decide)
  · exact hcp_k (by decide)
  · rw [hfl_k (by decide), hfl_k (by decide)]
  · rw [hfl_k (by decide), hfl_k (by decide)]
/-! mean -/
def lsum (f : Nat → Int32) : Nat → Int64
  | 0 => 0
  | j + 1 => lsum f j + (f j).toInt64
theorem lsum_c {f g : Nat → Int32} : ∀ n, (∀ j, j < n → f j = g j) → lsum f n = lsum g n
  | 0, _ => rfl
  | n + 1, h => by
    show lsum f n + (f n).toInt64 = lsum g n + (g n).toInt64
    rw [lsum_c n (fun j hj => h j (by omega)), h n (by omega)]
theorem x_sum {r n : Nat} (hn : n ≤ 40) {h : AH} (e : h.1 2 r 1 = nI n) : f_X5_sum r h = some (lsum (h.1 3 r) n, h) := by
  unfold f_X5_sum
  have := lp0 (fun F j => l_X5_sum_4 F r (lsum (h.1 3 r) j) (nI j) h) n (some (lsum (h.1 3 r) n, h)) (by
    intro F j hj
    show b_X5_sum_4 (l_X5_sum_4 F) r _ (nI j) h = _
    unfold b_X5_sum_4
    rw [e, if_neg (nI_ge hj (by omega)), if_pos (inb_nI (by omega) (by omega)), nI_cl (by omega), nI_1]
    rfl) (by
    intro F
    show b_X5_sum_4 (l_X5_sum_4 F) r _ (nI n) h = _
    unfold b_X5_sum_4
    rw [e, if_pos (Int32.le_refl _)]) (by omega)
  rw [nI_0] at this
  show bd (l_X5_sum_4 FU r (lsum (h.1 3 r) 0) 0 h) _ = _
  rw [this]
  rfl
theorem m_sum {r n : Nat} (hr : r < 6) (hn : n ≤ 40) {h : AH} (e : h.1 36 0 r = nI n) : l_X12_mean_27 FU (nI r) 0 0 h = some (lsum (fun j => h.1 37 0 (40 * r + j)) n, h) := by
  have := lp0 (fun F j => l_X12_mean_27 F (nI r) (lsum (fun j => h.1 37 0 (40 * r + j)) j) (nI j) h) n (some (lsum (fun j => h.1 37 0 (40 * r + j)) n, h)) (by
    intro F j hj
    show b_X12_mean_27 (l_X12_mean_27 F) (nI r) _ (nI j) h = _
    unfold b_X12_mean_27
    rw [if_pos (inb_nI hr (by omega)), nI_cl (by omega), e, if_neg (nI_ge hj (by omega)), m_rowAt hr (by omega), bd_some, nI_1]
    rfl) (by
    intro F
    show b_X12_mean_27 (l_X12_mean_27 F) (nI r) _ (nI n) h = _
    unfold b_X12_mean_27
    rw [if_pos (inb_nI hr (by omega)), nI_cl (by omega), e, if_pos (Int32.le_refl _)]) (by omega)
  rw [nI_0] at this
  exact this
theorem o_mean {hx hm : AH} (h : Bk hx hm) (a0 : Int32) : OB hx hm (f_X11_mean a0 hx) (f_X12_mean a0 hm) := by
  unfold f_X11_mean f_X12_mean
  simp only [x_isRow, m_isRow, bd_some, x_ref1, m_me1, x_ref4, m_me4, m_tells]
  by_cases hb : inb a0 6 = true
  rotate_left
  · simp only [if_neg hb, if_true]
    exact OB.same h rfl rfl
  obtain ⟨r, hr, rfl⟩ := inb_ex hb
  simp only [if_pos hb, if_neg i10, nI_cl (show r < 100000 by omega), x_isMiss, bd_some]
  rcases h.row hr with ⟨e1, e2⟩ | ⟨n, hn, e1, e2, f, g, k⟩
  · simp only [e1, e2, if_true, if_neg i10, if_neg neg1]
    exact OB.find h (f := 1) (by omega) rfl rfl
  simp only [e1, e2, if_neg f, if_pos g, if_true, x_sum hn e1, m_sum hr hn e2, bd_some]
  by_cases hz : n = 0
  · subst hz
    simp only [nI_0, if_true]
    exact OB.find h (f := 4) (by omega) rfl rfl
  simp only [if_neg (nI_ne0 (n := n) (by omega) (by omega)), e1, c_X12_mean_43, if_pos hb, nI_cl (show r < 100000 by omega), e2]
  have hd : ¬ (nI n).toInt64 = 0 := by
    intro z
    have := congrArg Int64.toInt z
    rw [Int32.toInt_toInt64, nI_toInt (by omega)] at this
    have h2 : (0 : Int64).toInt = 0 := rfl
    omega
  simp only [if_neg hd, m_tells, bd_some, lsum_c n (fun j hj => (h.2.1 r hr).2.2 j (by omega))]
  exact OB.told h _ rfl rfl
/-! texts -/
theorem x_isText (x : Int32) (h : AH) : f_X11_isText x h = some (if inb x 4 = true then 1 else 0, h) := by
  unfold f_X11_isText
  have h0 : (0 : Int32).toInt = 0 := rfl
  have h6 : (4 : Int32).toInt = 4 := rfl
  simp only [zn0, zn1, i_lt, i_le, h0, h6]
  by_cases hb : inb x 4 = true
  · obtain ⟨a, b⟩ := inb_iff.mp hb
    rw [if_pos hb, if_neg (by omega), if_neg (by omega)]
  · rw [if_neg hb]
    have : ¬ (0 ≤ x.toInt ∧ x.toInt < (4 : Nat)) := fun z => hb (inb_iff.mpr z)
    split
    · rfl
    · rw [if_pos (by omega)]
theorem m_isText (x : Int32) (h : AH) : f_X12_isText x h = some (if inb x 4 = true then 1 else 0, h) := by
  unfold f_X12_isText
  rw [m_in, bd_some, znc]
  congr 2
  have h0 : (0 : Int32).toInt = 0 := rfl
  have h5 : (3 : Int32).toInt = 3 := rfl
  rw [h0, h5]
  by_cases hb : inb x 4 = true
  · have := inb_iff.mp hb
    rw [if_pos hb, if_pos (by omega)]
  · have : ¬ (0 ≤ x.toInt ∧ x.toInt < (4 : Nat)) := fun z => hb (inb_iff.mpr z)
    rw [if_neg hb, if_neg (by omega)]
theorem x_fillT (r : Nat) (x : Int32) (h : AH) : f_J7_fill_031fb_signs r x h = some ((), hfl h 6 r 0 80 (fun _ => x.toInt8.toInt32)) := by
  unfold f_J7_fill_031fb_signs
  have := lp0 (fun F j => l_J7_fill_031fb_signs_5 F r x (nI j) (nI 80) (hfl h 6 r 0 j (fun _ => x.toInt8.toInt32))) 80 (some ((), hfl h 6 r 0 80 (fun _ => x.toInt8.toInt32))) (by
    intro F j hj
    show b_J7_fill_031fb_signs_5 (l_J7_fill_031fb_signs_5 F) r x (nI j) (nI 80) _ = _
    unfold b_J7_fill_031fb_signs_5
    rw [if_neg (nI_ge hj (by omega)), if_pos (inb_nI hj (by omega)), nI_cl (by omega), nI_1]
    exact congrArg _ (hfl_s0 h 6 r j (fun _ => x.toInt8.toInt32))) (by
    intro F
    show b_J7_fill_031fb_signs_5 (l_J7_fill_031fb_signs_5 F) r x (nI 80) (nI 80) _ = _
    unfold b_J7_fill_031fb_signs_5
    rw [if_pos (Int32.le_refl _)]) (by omega)
  rw [hfl_0, nI_0] at this
  rw [this]
  rfl
theorem x_renewT (r : Nat) (x : Int32) (h : AH) : f_X9_renew r x h = some ((), hfl (hsI h 5 r 1 x) 6 r 0 80 (fun _ => (32 : Int32).toInt8.toInt32)) := by
  unfold f_X9_renew
  rw [x_fillT]
  rfl
theorem m_textloop {r : Nat} (hr : r < 4) (x2 : Int32) (h : AH) : l_X12_text_21 FU (nI r) x2 0 h = some ((), hfl h 40 0 (80 * r) 80 (fun _ => (32 : Int32).toInt8.toInt32)) := by
  have := lp0 (fun F j => l_X12_text_21 F (nI r) x2 (nI j) (hfl h 40 0 (80 * r) j (fun _ => (32 : Int32).toInt8.toInt32))) 80 (some ((), hfl h 40 0 (80 * r) 80 (fun _ => (32 : Int32).toInt8.toInt32))) (by
    intro F j hj
    show b_X12_text_21 (l_X12_text_21 F) (nI r) x2 (nI j) _ = _
    unfold b_X12_text_21
    rw [ix80, if_neg (show ¬ (80 : Int32) ≤ nI j from nI_ge (b := 80) hj (by omega)), if_pos (inb_nI (by omega) (by omega)), nI_cl (by omega), nI_1]
    exact congrArg _ (hfl_s h 40 0 (80 * r) j (fun _ => (32 : Int32).toInt8.toInt32))) (by
    intro F
    show b_X12_text_21 (l_X12_text_21 F) (nI r) x2 (nI 80) _ = _
    unfold b_X12_text_21
    rw [if_pos (show (80 : Int32) ≤ nI 80 from Int32.le_refl _)]) (by omega)
  rw [hfl_0, nI_0] at this
  exact this
theorem o_text {hx hm : AH} (h : Bk hx hm) (a0 a1 : Int32) : OB hx hm (f_X11_text a0 a1 hx) (f_X12_text a0 a1 hm) := by
  unfold f_X11_text f_X12_text
  simp only [x_isText, m_isText, bd_some, x_ref5, m_me5]
  by_cases hb : inb a0 4 = true
  rotate_left
  · simp only [if_neg hb, if_true]
    exact OB.same h rfl rfl
  obtain ⟨r, hr, rfl⟩ := inb_ex hb
  simp only [if_pos hb, if_neg i10]
  by_cases h40 : a1 ≤ 80
  rotate_left
  · simp only [if_neg h40]
    exact OB.same h rfl rfl
  simp only [if_pos h40]
  by_cases h0 : 0 ≤ a1
  rotate_left
  · simp only [if_neg h0]
    exact OB.find h (f := 5) (by omega) rfl rfl
  simp only [if_pos h0, nI_cl (show r < 100000 by omega), x_renewT, m_textloop hr, bd_some, c_X12_text_35]
  have h40' : a1.toInt ≤ 80 := (i_le a1 80).mp h40
  obtain ⟨n, hn, rfl⟩ := ni_of (N := 80) ((lt_i0 a1).mp h0) h40'
  refine ⟨nI n, _, _, rfl, rfl, ⟨h.1.fr ?_ ?_ ?_ ?_ ?_ ?_, h.2.1.fr ?_ ?_ ?_ ?_, h.2.2.upd hr ?_ ?_ ?_ ?_ ?_ ?_ ?_⟩, (KX.rfl.sI ?_ ?_).fl ?_ ?_, (KM.rfl.sI ?_ ?_ ?_).fl ?_ ?_ ?_⟩
  all_goals try omega
  · rw [hfl_k (by decide), hsI_k (by decide)]
  · rw [hfl_k (by decide), hsI_k (by decide)]
  · rfl
  · intro j hj
    rw [hfl_k (by decide), hsI_k (by decide)]
  · rw [hfl_k (by decide), hsI_k (by decide)]
  · rfl
  · rw [hfl_k (by decide), hsI_k (by decide)]
  · rw [hfl_k (by decide), hsI_k (by decide)]
  · rw [hfl_k (by decide), hsI_k (by decide)]
  · rw [hfl_k (by decide), hsI_k (by decide)]
  · intro q hq
    simp [hfl_1, hsI_1, hq]
  · intro q hq
    simp [hfl_1, hsI_1, hq]
  · intro q hq j
    simp [hfl_1, hsI_1, hq]
  · intro j hj
    rw [hfl_1, if_neg (by omega), hsI_k (by decide)]
  · simp [hfl_1, hsI_1]
  · right
    refine ⟨n, hn, ?_⟩
    simp [hfl_1, hsI_1]
  · intro j hj
    rw [hfl_1, if_pos (by omega), hfl_1, if_pos (by omega)]
theorem Bk.text {hx hm : AH} (h : Bk hx hm) {r : Nat} (hr : r < 4) : (hx.1 5 r 1 = -1 ∧ hm.1 39 0 r = -1) ∨ ∃ n : Nat, n ≤ 80 ∧ hx.1 5 r 1 = nI n ∧ hm.1 39 0 r = nI n ∧ ¬ nI n = -1 ∧ 0 ≤ nI n ∧ ¬ nI n < 0 := by
  obtain ⟨a, b, c⟩ := h.2.2 r hr
  rw [a]
  rcases b.neg (by omega) with ⟨e, -, -⟩ | ⟨n, hn, e, f, g, k⟩
  · exact Or.inl ⟨e, e⟩
  · rw [e] at f g k
    exact Or.inr ⟨n, hn, e, e, f, g, k⟩
theorem x_isMissT (r : Nat) (h : AH) : f_X9_isMissing r h = some (if h.1 5 r 1 = -1 then 1 else 0, h) := by
  unfold f_X9_isMissing
  split <;> rfl
theorem o_put {hx hm : AH} (h : Bk hx hm) (a0 a1 a2 : Int32) : OB hx hm (f_X11_put a0 a1 a2 hx) (f_X12_put a0 a1 a2 hm) := by
  unfold f_X11_put f_X12_put
  simp only [x_isText, m_isText, bd_some, x_ref1, m_me1, x_ref2, m_me2]
  by_cases hb : inb a0 4 = true
  rotate_left
  · simp only [if_neg hb, if_true]
    exact OB.same h rfl rfl
  obtain ⟨r, hr, rfl⟩ := inb_ex hb
  simp only [if_pos hb, if_neg i10, nI_cl (show r < 100000 by omega), x_isMissT, bd_some]
  rcases h.text hr with ⟨e1, e2⟩ | ⟨n, hn, e1, e2, f, g, k⟩
  · simp only [e1, e2, if_true, if_neg i10, if_neg neg1]
    exact OB.find h (f := 1) (by omega) rfl rfl
  simp only [e1, e2, if_neg f, if_pos g, if_true, m_inn (show n ≤ 100 by omega), bd_some]
  by_cases hc : inb a1 n = true
  rotate_left
  · have hh : ¬ (0 ≤ a1.toInt ∧ a1.toInt < (n : Int)) := fun z => hc (inb_iff.mpr z)
    simp only [if_neg hc, if_true]
    refine OB.find h (f := 2) (by omega) ?_ rfl
    by_cases a : a1 < 0
    · rw [if_pos a]
    · rw [if_neg a, if_neg]
      rw [i_lt0] at a
      rw [i_lt, nI_toInt (by omega)]
      omega
  obtain ⟨j, hj, rfl⟩ := inb_ex hc
  simp only [if_pos hc, if_neg i10, if_pos (inb_up hc hn), nI_cl (show j < 100000 by omega), ix80, if_pos (inb_nI (show 80 * r + j < 320 by omega) (by omega)), nI_cl (show 80 * r + j < 100000 by omega), if_neg (show ¬ nI j < 0 from nI_pos (by omega)), if_pos (nI_lt hj (show n < 2 ^ 31 by omega)), (h.2.2 r hr).2.2 j (by omega)]
  refine ⟨_, _, _, rfl, congrArg (fun z => some (z, _)) (Int32.add_comm _ _), ⟨h.1.fr ?_ ?_ ?_ ?_ ?_ ?_, h.2.1.fr ?_ ?_ ?_ ?_, h.2.2.upd hr ?_ ?_ ?_ ?_ ?_ ?_ ?_⟩, KX.rfl.sI ?_ ?_, KM.rfl.sI ?_ ?_ ?_⟩
  all_goals try omega
  · exact hsI_k (by decide)
  · exact hsI_k (by decide)
  · rfl
  · intro j hj
    rw [hsI_k (by decide)]
  · exact hsI_k (by decide)
  · rfl
  · exact hsI_k (by decide)
  · exact hsI_k (by decide)
  · exact hsI_k (by decide)
  · exact hsI_k (by decide)
  · intro q hq
    rw [hsI_k (by decide)]
  · intro q hq
    rw [hsI_k (by decide)]
  · intro q hq i
    rw [hsI_1 _ 6, if_neg (by omega)]
  · intro i hi
    rw [hsI_1 _ 40, if_neg (by omega)]
  · rw [hsI_k (by decide), hsI_k (by decide)]
    exact (h.2.2 r hr).1
  · rw [hsI_k (by decide)]
    exact (h.2.2 r hr).2.1
  · intro i hi
    rw [hsI_1 _ 6, hsI_1 _ 40]
    by_cases hij : i = j
    · subst hij
      rw [if_pos ⟨rfl, rfl, rfl⟩, if_pos ⟨rfl, rfl, rfl⟩]
    · rw [if_neg (by omega), if_neg (by omega)]
      exact (h.2.2 r hr).2.2 i hi
