/-! ===== digest: rows, texts ===== -/
def rsz (z : Int32) : Nat := if z = -1 then 0 else z.toNatClampNeg
def gRow (h : AH) (d : Int64) (r : Nat) : Int64 := mf (fun j => (h.1 37 0 (40 * r + j)).toInt64) ((31 : Int64) * d + (h.1 36 0 r).toInt64) (rsz (h.1 36 0 r))
def gTxt (h : AH) (d : Int64) (r : Nat) : Int64 := mf (fun j => (h.1 40 0 (80 * r + j)).toInt64) ((31 : Int64) * d + (h.1 39 0 r).toInt64) (rsz (h.1 39 0 r))
theorem m1le (j : Nat) (hj : j < 100000) : (-1 : Int32) ≤ nI j := by
  rw [i_le, nI_toInt (by omega)]
  have : (-1 : Int32).toInt = -1 := rfl
  omega
/-- a size, as it is met -/
theorem sz_cs {N : Nat} (hN : N ≤ 80) {z : Int32} (h : Sz N z) : rsz z ≤ N ∧ (∀ j, j < rsz z → ¬ z ≤ nI j) ∧ z ≤ nI (rsz z) := by
  rcases h with e | ⟨n, hn, e⟩
  · subst e
    have : rsz (-1) = 0 := if_pos rfl
    rw [this]
    exact ⟨Nat.zero_le _, fun j hj => by omega, by decide⟩
  · subst e
    have hne : ¬ nI n = -1 := by
      intro z
      have := congrArg Int32.toInt z
      rw [nI_toInt (by omega)] at this
      have h2 : (-1 : Int32).toInt = -1 := rfl
      omega
    have : rsz (nI n) = n := by
      unfold rsz
      rw [if_neg hne, nI_cl (by omega)]
    rw [this]
    exact ⟨hn, fun j hj => nI_ge hj (by omega), Int32.le_refl _⟩
theorem x_wRow {hx hm : AH} (b : Bk hx hm) (d : Int64) {r : Nat} (hr : r < 6) : f_X11_withRow d r hx = some (gRow hm d r, hx) := by
  obtain ⟨a1, a2, a3⟩ := b.2.1 r hr
  obtain ⟨s1, s2, s3⟩ := sz_cs (by omega) a2
  unfold f_X11_withRow gRow
  rw [a1]
  have := lp0 (fun F j => l_X11_withRow_10 F r (mf (fun j => (hm.1 37 0 (40 * r + j)).toInt64) ((31 : Int64) * d + (hm.1 36 0 r).toInt64) j) (nI j) hx) (rsz (hm.1 36 0 r)) (some (mf (fun j => (hm.1 37 0 (40 * r + j)).toInt64) ((31 : Int64) * d + (hm.1 36 0 r).toInt64) (rsz (hm.1 36 0 r)), hx)) (by
    intro F j hj
    show b_X11_withRow_10 (l_X11_withRow_10 F) r _ (nI j) hx = l_X11_withRow_10 F r ((31 : Int64) * mf (fun j => (hm.1 37 0 (40 * r + j)).toInt64) ((31 : Int64) * d + (hm.1 36 0 r).toInt64) j + (hm.1 37 0 (40 * r + j)).toInt64) (nI (j + 1)) hx
    unfold b_X11_withRow_10
    rw [a1, if_neg (s2 j hj), if_pos (inb_nI (by omega) (by omega)), nI_cl (by omega), a3 j (by omega), nI_1]) (by
    intro F
    show b_X11_withRow_10 (l_X11_withRow_10 F) r _ (nI (rsz (hm.1 36 0 r))) hx = _
    unfold b_X11_withRow_10
    rw [a1, if_pos s3]) (by omega)
  have this' : l_X11_withRow_10 FU r ((31 : Int64) * d + (hm.1 36 0 r).toInt64) 0 hx = some (mf (fun j => (hm.1 37 0 (40 * r + j)).toInt64) ((31 : Int64) * d + (hm.1 36 0 r).toInt64) (rsz (hm.1 36 0 r)), hx) := this
  rw [this']
  rfl
theorem m_dg32 {hx hm : AH} (b : Bk hx hm) (d : Int64) {r : Nat} (hr : r < 6) : l_X12_digest_32 FU (nI r) 0 (hH hm d) = some ((), hH hm (mf (fun j => (hm.1 37 0 (40 * r + j)).toInt64) d (rsz (hm.1 36 0 r)))) := by
  obtain ⟨a1, a2, a3⟩ := b.2.1 r hr
  obtain ⟨s1, s2, s3⟩ := sz_cs (by omega) a2
  have := lp0 (fun F j => l_X12_digest_32 F (nI r) (nI j) (hH hm (mf (fun j => (hm.1 37 0 (40 * r + j)).toInt64) d j))) (rsz (hm.1 36 0 r)) (some ((), hH hm (mf (fun j => (hm.1 37 0 (40 * r + j)).toInt64) d (rsz (hm.1 36 0 r))))) (by
    intro F j hj
    show b_X12_digest_32 (l_X12_digest_32 F) (nI r) (nI j) (hH hm (mf (fun j => (hm.1 37 0 (40 * r + j)).toInt64) d j)) = l_X12_digest_32 F (nI r) (nI (j + 1)) (hH hm ((31 : Int64) * mf (fun j => (hm.1 37 0 (40 * r + j)).toInt64) d j + (hm.1 37 0 (40 * r + j)).toInt64))
    generalize mf (fun j => (hm.1 37 0 (40 * r + j)).toInt64) d j = q
    have e : (hH hm q).1 36 0 r = hm.1 36 0 r := rfl
    have e2 : (hH hm q).1 37 0 (40 * r + j) = hm.1 37 0 (40 * r + j) := rfl
    unfold b_X12_digest_32
    rw [if_pos (inb_nI hr (by omega)), nI_cl (by omega), e, if_neg (s2 j hj), m_rowAt hr (by omega), bd_some, e2, m_mix, bd_some, nI_1]) (by
    intro F
    show b_X12_digest_32 (l_X12_digest_32 F) (nI r) (nI (rsz (hm.1 36 0 r))) _ = _
    generalize mf (fun j => (hm.1 37 0 (40 * r + j)).toInt64) d (rsz (hm.1 36 0 r)) = q
    have e : (hH hm q).1 36 0 r = hm.1 36 0 r := rfl
    unfold b_X12_digest_32
    rw [if_pos (inb_nI hr (by omega)), nI_cl (by omega), e, if_pos s3]) (by omega)
  exact this
theorem x_dg63 {hx hm : AH} (b : Bk hx hm) (d : Int64) : l_X11_digest_63 FU d 0 hx = some (mg (gRow hm) d 6, hx) := by
  have := lp0 (fun F j => l_X11_digest_63 F (mg (gRow hm) d j) (nI j) hx) 6 (some (mg (gRow hm) d 6, hx)) (by
    intro F j hj
    show b_X11_digest_63 (l_X11_digest_63 F) _ (nI j) hx = l_X11_digest_63 F (gRow hm (mg (gRow hm) d j) j) (nI (j + 1)) hx
    unfold b_X11_digest_63
    rw [if_neg (show ¬ (6 : Int32) ≤ nI j from nI_ge (b := 6) hj (by omega)), if_pos (inb_nI hj (by omega)), nI_cl (by omega), x_wRow b _ hj, bd_some, nI_1]) (by
    intro F
    show b_X11_digest_63 (l_X11_digest_63 F) _ (nI 6) hx = _
    unfold b_X11_digest_63
    rw [if_pos (show (6 : Int32) ≤ nI 6 by decide)]) (by omega)
  exact this
theorem m_dg20 {hx hm : AH} (b : Bk hx hm) (d : Int64) : l_X12_digest_20 FU 0 (hH hm d) = some ((), hH hm (mg (gRow hm) d 6)) := by
  have := lp0 (fun F j => l_X12_digest_20 F (nI j) (hH hm (mg (gRow hm) d j))) 6 (some ((), hH hm (mg (gRow hm) d 6))) (by
    intro F j hj
    show b_X12_digest_20 (l_X12_digest_20 F) (nI j) (hH hm (mg (gRow hm) d j)) = l_X12_digest_20 F (nI (j + 1)) (hH hm (gRow hm (mg (gRow hm) d j) j))
    generalize mg (gRow hm) d j = q
    have e : (hH hm q).1 36 0 j = hm.1 36 0 j := rfl
    unfold b_X12_digest_20 c_X12_digest_47
    rw [if_neg (show ¬ (6 : Int32) ≤ nI j from nI_ge (b := 6) hj (by omega)), if_pos (inb_nI hj (by omega)), nI_cl (by omega), e, m_mix, bd_some, m_dg32 b _ hj, bd_some, nI_1]
    rfl) (by
    intro F
    show b_X12_digest_20 (l_X12_digest_20 F) (nI 6) _ = _
    unfold b_X12_digest_20
    rw [if_pos (show (6 : Int32) ≤ nI 6 by decide)]) (by omega)
  exact this
theorem x_wTxt {hx hm : AH} (b : Bk hx hm) (d : Int64) {r : Nat} (hr : r < 4) : f_X11_withText d r hx = some (gTxt hm d r, hx) := by
  obtain ⟨a1, a2, a3⟩ := b.2.2 r hr
  obtain ⟨s1, s2, s3⟩ := sz_cs (by omega) a2
  unfold f_X11_withText gTxt
  rw [a1]
  have := lp0 (fun F j => l_X11_withText_10 F r (mf (fun j => (hm.1 40 0 (80 * r + j)).toInt64) ((31 : Int64) * d + (hm.1 39 0 r).toInt64) j) (nI j) hx) (rsz (hm.1 39 0 r)) (some (mf (fun j => (hm.1 40 0 (80 * r + j)).toInt64) ((31 : Int64) * d + (hm.1 39 0 r).toInt64) (rsz (hm.1 39 0 r)), hx)) (by
    intro F j hj
    show b_X11_withText_10 (l_X11_withText_10 F) r _ (nI j) hx = l_X11_withText_10 F r ((31 : Int64) * mf (fun j => (hm.1 40 0 (80 * r + j)).toInt64) ((31 : Int64) * d + (hm.1 39 0 r).toInt64) j + (hm.1 40 0 (80 * r + j)).toInt64) (nI (j + 1)) hx
    unfold b_X11_withText_10
    rw [a1, if_neg (s2 j hj), if_pos (inb_nI (by omega) (by omega)), nI_cl (by omega), a3 j (by omega), nI_1]) (by
    intro F
    show b_X11_withText_10 (l_X11_withText_10 F) r _ (nI (rsz (hm.1 39 0 r))) hx = _
    unfold b_X11_withText_10
    rw [a1, if_pos s3]) (by omega)
  have this' : l_X11_withText_10 FU r ((31 : Int64) * d + (hm.1 39 0 r).toInt64) 0 hx = some (mf (fun j => (hm.1 40 0 (80 * r + j)).toInt64) ((31 : Int64) * d + (hm.1 39 0 r).toInt64) (rsz (hm.1 39 0 r)), hx) := this
  rw [this']
  rfl
theorem m_dg63 {hx hm : AH} (b : Bk hx hm) (d : Int64) {r : Nat} (hr : r < 4) : l_X12_digest_63 FU (nI r) 0 (hH hm d) = some ((), hH hm (mf (fun j => (hm.1 40 0 (80 * r + j)).toInt64) d (rsz (hm.1 39 0 r)))) := by
  obtain ⟨a1, a2, a3⟩ := b.2.2 r hr
  obtain ⟨s1, s2, s3⟩ := sz_cs (by omega) a2
  have := lp0 (fun F j => l_X12_digest_63 F (nI r) (nI j) (hH hm (mf (fun j => (hm.1 40 0 (80 * r + j)).toInt64) d j))) (rsz (hm.1 39 0 r)) (some ((), hH hm (mf (fun j => (hm.1 40 0 (80 * r + j)).toInt64) d (rsz (hm.1 39 0 r))))) (by
    intro F j hj
    show b_X12_digest_63 (l_X12_digest_63 F) (nI r) (nI j) (hH hm (mf (fun j => (hm.1 40 0 (80 * r + j)).toInt64) d j)) = l_X12_digest_63 F (nI r) (nI (j + 1)) (hH hm ((31 : Int64) * mf (fun j => (hm.1 40 0 (80 * r + j)).toInt64) d j + (hm.1 40 0 (80 * r + j)).toInt64))
    generalize mf (fun j => (hm.1 40 0 (80 * r + j)).toInt64) d j = q
    have e : (hH hm q).1 39 0 r = hm.1 39 0 r := rfl
    have e2 : (hH hm q).1 40 0 (80 * r + j) = hm.1 40 0 (80 * r + j) := rfl
    unfold b_X12_digest_63 f_X12_byteAt
    rw [if_pos (inb_nI hr (by omega)), nI_cl (by omega), e, if_neg (s2 j hj), if_pos (inb_nI hr (by omega)), if_neg (s2 j hj), ix80, if_pos (inb_nI (by omega) (by omega)), nI_cl (by omega), bd_some, e2, m_mix, bd_some, nI_1]) (by
    intro F
    show b_X12_digest_63 (l_X12_digest_63 F) (nI r) (nI (rsz (hm.1 39 0 r))) _ = _
    generalize mf (fun j => (hm.1 40 0 (80 * r + j)).toInt64) d (rsz (hm.1 39 0 r)) = q
    have e : (hH hm q).1 39 0 r = hm.1 39 0 r := rfl
    unfold b_X12_digest_63
    rw [if_pos (inb_nI hr (by omega)), nI_cl (by omega), e, if_pos s3]) (by omega)
  exact this
theorem x_dg77 {hx hm : AH} (b : Bk hx hm) (d : Int64) : l_X11_digest_77 FU d 0 hx = some (mg (gTxt hm) d 4, hx) := by
  have := lp0 (fun F j => l_X11_digest_77 F (mg (gTxt hm) d j) (nI j) hx) 4 (some (mg (gTxt hm) d 4, hx)) (by
    intro F j hj
    show b_X11_digest_77 (l_X11_digest_77 F) _ (nI j) hx = l_X11_digest_77 F (gTxt hm (mg (gTxt hm) d j) j) (nI (j + 1)) hx
    unfold b_X11_digest_77
    rw [if_neg (show ¬ (4 : Int32) ≤ nI j from nI_ge (b := 4) hj (by omega)), if_pos (inb_nI hj (by omega)), nI_cl (by omega), x_wTxt b _ hj, bd_some, nI_1]) (by
    intro F
    show b_X11_digest_77 (l_X11_digest_77 F) _ (nI 4) hx = _
    unfold b_X11_digest_77
    rw [if_pos (show (4 : Int32) ≤ nI 4 by decide)]) (by omega)
  exact this
theorem m_dg51 {hx hm : AH} (b : Bk hx hm) (d : Int64) : l_X12_digest_51 FU 0 (hH hm d) = some ((), hH hm (mg (gTxt hm) d 4)) := by
  have := lp0 (fun F j => l_X12_digest_51 F (nI j) (hH hm (mg (gTxt hm) d j))) 4 (some ((), hH hm (mg (gTxt hm) d 4))) (by
    intro F j hj
    show b_X12_digest_51 (l_X12_digest_51 F) (nI j) (hH hm (mg (gTxt hm) d j)) = l_X12_digest_51 F (nI (j + 1)) (hH hm (gTxt hm (mg (gTxt hm) d j) j))
    generalize mg (gTxt hm) d j = q
    have e : (hH hm q).1 39 0 j = hm.1 39 0 j := rfl
    unfold b_X12_digest_51 c_X12_digest_78
    rw [if_neg (show ¬ (4 : Int32) ≤ nI j from nI_ge (b := 4) hj (by omega)), if_pos (inb_nI hj (by omega)), nI_cl (by omega), e, m_mix, bd_some, m_dg63 b _ hj, bd_some, nI_1]
    rfl) (by
    intro F
    show b_X12_digest_51 (l_X12_digest_51 F) (nI 4) _ = _
    unfold b_X12_digest_51
    rw [if_pos (show (4 : Int32) ≤ nI 4 by decide)]) (by omega)
  exact this
theorem e_digest : EL Rel f_X11_digest f_X12_digest := by
  intro hx hm h
  obtain ⟨b, p, s, d⟩ := h
  have h : Rel hx hm := ⟨b, p, s, d⟩
  have h40 := d.2.1.t40
  unfold f_X11_digest f_X12_digest
  have h0 : hsL hm 34 0 39 (17 : Int64) = hH hm 17 := rfl
  rw [h0, x_dg4 b d, m_dg5 b d, bd_some, bd_some]
  generalize mf (fun w => (hwm hm p s w).toInt64) 17 9 = q1
  unfold c_X11_digest_18 c_X12_digest_16 f_X12_mixRoom f_X11_withFacts c_X11_withFacts_28 c_X11_withFacts_54 c_X11_digest_61 c_X11_digest_75 c_X11_digest_89
  have e18 : (hH hm q1).1 34 0 18 = nI s.lw := d.m.lw
  rw [d.x.lw, e18, m_mix, bd_some, m_mr7 d.m, bd_some, x_wf4 d.x, bd_some, x_wf30 d.x, bd_some, bd_some]
  generalize mg (gC p s) ((31 : Int64) * q1 + (nI s.lw).toInt64) p.n = q2
  unfold c_X12_mixRoom_27
  rw [m_mr29 d.m, bd_some]
  generalize mg (gR p s) q2 p.m = q3
  unfold c_X12_mixRoom_49
  rw [m_mr51 d.m, bd_some, x_wev d.x, bd_some]
  unfold c_X12_mixRoom_64 c_X12_mixRoom_95
  have e27 : (hH hm (mf (fun i => (nI (s.tr i)).toInt64) q3 s.ts)).1 34 0 27 = nI s.ts := d.m.ts
  rw [e27, m_mix, bd_some, m_mr72 d, m_mr72 d, bd_some, bd_some, x_dg37 d, bd_some, x_dg63 b, bd_some, x_dg77 b, bd_some]
  have key : (if nI s.ts = 0 then some ((), hH hm (mf (imV hm) ((31 : Int64) * mf (fun i => (nI (s.tr i)).toInt64) q3 s.ts + -1) 3)) else some ((), hH hm (mf (imV hm) (mf (fun i => (nI (s.tr i)).toInt64) q3 s.ts) 3))) = some ((), hH hm (mf (imV hm) (if s.ts = 0 then (31 : Int64) * q3 + -1 else mf (fun i => (nI (s.tr i)).toInt64) q3 s.ts) 3)) := by
    by_cases e : s.ts = 0
    · rw [if_pos ((nI_eq0 (by omega)).mpr e), if_pos e, e]; rfl
    · rw [if_neg (fun z => e ((nI_eq0 (by omega)).mp z)), if_neg e]
  rw [key, bd_some]
  generalize (if s.ts = 0 then (31 : Int64) * q3 + -1 else mf (fun i => (nI (s.tr i)).toInt64) q3 s.ts) = q4
  unfold c_X12_digest_49 c_X12_digest_80
  rw [m_dg20 b, bd_some, m_dg51 b, bd_some]
  generalize mg (gTxt hm) (mg (gRow hm) (mf (imV hm) q4 3) 6) 4 = q5
  have e39 : (hH hm q5).2 34 0 39 = q5 := by
    unfold hH
    rw [hsL_2, if_pos ⟨rfl, rfl, rfl⟩]
  rw [e39]
  exact ⟨q5, hx, hH hm q5, rfl, rfl, b.hash q5, p, s, d⟩
