theorem ix2 (j : Nat) : (2 : Int32) * nI j = nI (2 * j) := by
  show nI 2 * nI j = _
  rw [nI_mul]
/-- how many answers go well -/
theorem good_ex (P : Nat → Bool) (q : Nat) : ∃ G, G ≤ q ∧ (∀ j, j < G → P j = true) ∧ (G < q → P G = false) := by
  induction q with
  | zero => exact ⟨0, Nat.le_refl _, fun j h => by omega, fun h => by omega⟩
  | succ q ih =>
    obtain ⟨G, a, b, c⟩ := ih
    by_cases e : G < q
    · exact ⟨G, by omega, b, fun _ => c e⟩
    · have : G = q := by omega
      subst this
      cases f : P G
      · exact ⟨G, by omega, b, fun _ => f⟩
      · refine ⟨G + 1, Nat.le_refl _, fun j hj => ?_, fun h => by omega⟩
        by_cases z : j = G
        · rw [z]; exact f
        · exact b j (by omega)
def cgT (p : PD) (s : SD) (v : Nat → Nat) (i : Nat) : Bool := cgo p s (v (2 * i)) (v (2 * i + 1)) (v (2 * i + 2)) (bq s.lw (fun i => v (2 * i)) (i + 1))
theorem x_goodPairs {hx hm : AH} {p : PD} {s : SD} (d : RD hx hm p s) {r q : Nat} {v : Nat → Nat} (t : TL hx hm p r q v) {G : Nat} (g1 : G ≤ q) (g2 : ∀ j, j < G → cgT p s v j = true) (g3 : G < q → cgT p s v G = false) : f_X8_goodPairs r hx = some (nI G, hsI hx 28 0 3 (wo p s (v (2 * G)) (bq s.lw (fun i => v (2 * i)) (G + 1)))) := by
  obtain ⟨hr, hq, t1, t2, t3⟩ := t
  have hn := d.1.n10
  have hM := d.1.m14
  have hl := d.2.1.2.2.1
  have el : (nI s.lw = 1) ↔ s.lw = 1 := nI_eq (b := 1) (by omega) (by omega)
  unfold f_X8_goodPairs
  have i0 : (0 : Int32).toNatClampNeg = 0 := rfl
  rw [i0, (t3 0 (by omega)).1, t1, (d2 (2 * q + 1) (by omega)).1, show (2 * q + 1) / 2 = q by omega]
  -- the way out at i
  have wayO : ∀ i, i ≤ q → (if nI s.lw = (1 : Int32) then bd (f_X0_wayOut (nI (v (2 * i))) (tb (fun i => v (2 * i)) (i + 1)) hx) (fun y1 h2 => some (nI i, hsI h2 28 0 3 y1)) else bd (f_X0_wayOut (nI (v (2 * i))) 0 hx) (fun y3 h4 => some (nI i, hsI h4 28 0 3 y3))) = some (nI i, hsI hx 28 0 3 (wo p s (v (2 * i)) (bq s.lw (fun i => v (2 * i)) (i + 1)))) := by
    intro i hi
    have hv := (t3 (2 * i) (by omega)).2.2.1 (by omega)
    rw [x_wayOut d.x hv, bd_some, x_wayOut d.x hv, bd_some]
    unfold bq
    by_cases e : s.lw = 1
    · rw [if_pos (el.mpr e), if_pos e]
    · rw [if_neg (fun z => e (el.mp z)), if_neg e]
  have := lp0 (fun F i => l_X8_goodPairs_18 F r (nI (v (2 * i))) (tb (fun i => v (2 * i)) (i + 1)) (nI q) (nI i) (nI i) hx) G (some (nI G, hsI hx 28 0 3 (wo p s (v (2 * G)) (bq s.lw (fun i => v (2 * i)) (G + 1))))) (by
    intro F i hi
    show b_X8_goodPairs_18 (l_X8_goodPairs_18 F) r (nI (v (2 * i))) (tb (fun i => v (2 * i)) (i + 1)) (nI q) (nI i) (nI i) hx = l_X8_goodPairs_18 F r (nI (v (2 * (i + 1)))) (tb (fun i => v (2 * i)) (i + 1) ||| ((1 : Int32) <<< (nI (v (2 * (i + 1))) &&& 31))) (nI q) (nI (i + 1)) (nI (i + 1)) hx
    have a1 := t3 (2 * i + 1) (by omega)
    have a2 := t3 (2 * i + 2) (by omega)
    have v0 := (t3 (2 * i) (by omega)).2.2.1 (by omega)
    have v1 := a1.2.2.2 (by omega)
    have v2 := a2.2.2.1 (by omega)
    unfold b_X8_goodPairs_18
    rw [if_neg (nI_ge (by omega) (by omega)), ix2, nI_1, show nI (2 * i) + (2 : Int32) = nI (2 * i + 2) from nI_add (2 * i) 2, if_pos (inb_nI (show 2 * i + 1 < 40 by omega) (by omega)), if_pos (inb_nI (show 2 * i + 2 < 40 by omega) (by omega)), nI_cl (show 2 * i + 1 < 100000 by omega), nI_cl (show 2 * i + 2 < 100000 by omega), a1.1, a2.1, x_canGo d.x (by omega) v1 (by omega), bd_some, if10, x_canGo d.x (by omega) v1 (by omega), bd_some, if10, nI_1, d.x.lw, show 2 * (i + 1) = 2 * i + 2 by omega]
    have hc := g2 i hi
    unfold cgT bq at hc
    by_cases e : s.lw = 1
    · rw [if_pos e] at hc
      rw [if_pos (el.mpr e), if_pos hc]
    · rw [if_neg e] at hc
      rw [if_neg (fun z => e (el.mp z)), if_pos hc]) (by
    intro F
    show b_X8_goodPairs_18 (l_X8_goodPairs_18 F) r (nI (v (2 * G))) (tb (fun i => v (2 * i)) (G + 1)) (nI q) (nI G) (nI G) hx = _
    unfold b_X8_goodPairs_18
    rw [d.x.lw, wayO G g1]
    by_cases e : G = q
    · rw [if_pos (by rw [e]; exact Int32.le_refl _)]
    · have a1 := t3 (2 * G + 1) (by omega)
      have a2 := t3 (2 * G + 2) (by omega)
      have v0 := (t3 (2 * G) (by omega)).2.2.1 (by omega)
      have v1 := a1.2.2.2 (by omega)
      have v2 := a2.2.2.1 (by omega)
      rw [if_neg (nI_ge (by omega) (by omega)), ix2, nI_1, show nI (2 * G) + (2 : Int32) = nI (2 * G + 2) from nI_add (2 * G) 2, if_pos (inb_nI (show 2 * G + 1 < 40 by omega) (by omega)), if_pos (inb_nI (show 2 * G + 2 < 40 by omega) (by omega)), nI_cl (show 2 * G + 1 < 100000 by omega), nI_cl (show 2 * G + 2 < 100000 by omega), a1.1, a2.1, x_canGo d.x (by omega) v1 (by omega), bd_some, if10, x_canGo d.x (by omega) v1 (by omega), bd_some, if10, d.x.lw, wayO G g1]
      have hc := g3 (by omega)
      unfold cgT bq at hc
      by_cases f : s.lw = 1
      · rw [if_pos f] at hc
        rw [if_pos (el.mpr f), if_neg (by rw [hc]; decide)]
      · rw [if_neg f] at hc
        rw [if_neg (fun z => f (el.mp z)), if_neg (by rw [hc]; decide)]) (by omega)
  have h0 : tb (fun i => v (2 * i)) (0 + 1) = (1 : Int32) <<< (nI (v 0) &&& 31) := by
    show (0 : Int32) ||| ((1 : Int32) <<< (nI (v (2 * 0)) &&& 31)) = _
    apply bt_ext
    intro i _
    rw [bt_or, bt_0, Bool.false_or]
  rw [h0] at this
  exact this
theorem m_judge {hx hm : AH} {p : PD} {s : SD} (d : RD hx hm p s) {r q : Nat} {v : Nat → Nat} (t : TL hx hm p r q v) {G : Nat} (g1 : G ≤ q) (g2 : ∀ j, j < G → cgT p s v j = true) (g3 : G < q → cgT p s v G = false) : ∃ h2, bd (l_X12_judge_18 FU (nI r) 1 (hsI hm 57 0 (0 : Int32).toNatClampNeg (nI (v 0)))) (fun v h => c_X12_judge_58 v h) = some (nI G, hsI h2 34 0 2 (wo p s (v (2 * G)) (bq s.lw (fun i => v (2 * i)) (G + 1)))) ∧ SM hm h2 := by
  obtain ⟨hr, hq, t1, t2, t3⟩ := t
  have hn := d.1.n10
  have hM := d.1.m14
  have sc : ∀ i, SM hm (hfl hm 57 0 0 i (fun i => nI (v (2 * i)))) := fun i => SM.rfl.fl (by omega)
  have ta : ∀ i, i ≤ q + 1 → TA (hfl hm 57 0 0 i (fun i => nI (v (2 * i)))) 57 p (fun i => v (2 * i)) i := fun i hi j hj => by
    refine ⟨?_, (t3 (2 * j) (by omega)).2.2.1 (by omega)⟩
    rw [hfl_1, if_pos (by omega)]; rfl
  have := lp0 (fun F i => l_X12_judge_18 F (nI r) (nI (i + 1)) (hfl hm 57 0 0 (i + 1) (fun i => nI (v (2 * i))))) G (some (nI (G + 1), hfl hm 57 0 0 (G + 1) (fun i => nI (v (2 * i))))) (by
    intro F i hi
    show b_X12_judge_18 (l_X12_judge_18 F) (nI r) (nI (i + 1)) (hfl hm 57 0 0 (i + 1) (fun i => nI (v (2 * i)))) = l_X12_judge_18 F (nI r) (nI (i + 1 + 1)) (hfl hm 57 0 0 (i + 1 + 1) (fun i => nI (v (2 * i))))
    have a1 := t3 (2 * i + 1) (by omega)
    have a2 := t3 (2 * i + 2) (by omega)
    have v1 := a1.2.2.2 (by omega)
    have v2 := a2.2.2.1 (by omega)
    have ck := d.m.fr (sc (i + 1)).k
    rw [← hfl_s0 hm 57 0 (i + 1)]
    unfold b_X12_judge_18
    rw [if_pos (inb_nI hr (by omega)), nI_cl (show r < 100000 by omega), hfl_k (a := 36) (by decide), t2, ix2, if_neg (nI_ge (by omega) (by omega)), nI_sub1 (by omega), m_rowAt hr (by omega), bd_some, m_rowAt hr (by omega), bd_some, hfl_k (a := 37) (by decide), show 2 * (i + 1) - 1 = 2 * i + 1 by omega, show 2 * (i + 1) = 2 * i + 2 by omega, a1.2.1, a2.2.1, m_canAnswerT ck (ta (i + 1) (by omega)) (by omega) (by omega) v1 (by omega), bd_some, if10]
    have hc := g2 i hi
    unfold cgT at hc
    rw [show i + 1 - 1 = i by omega, if_pos hc, m_rowAt hr (by omega), bd_some, hfl_k (a := 37) (by decide), a2.2.1, if_pos (inb_nI (by omega) (by omega)), nI_cl (by omega), nI_1]) (by
    intro F
    show b_X12_judge_18 (l_X12_judge_18 F) (nI r) (nI (G + 1)) (hfl hm 57 0 0 (G + 1) (fun i => nI (v (2 * i)))) = _
    have ck := d.m.fr (sc (G + 1)).k
    unfold b_X12_judge_18
    rw [if_pos (inb_nI hr (by omega)), nI_cl (show r < 100000 by omega), hfl_k (a := 36) (by decide), t2, ix2]
    by_cases e : G = q
    · rw [if_pos (nI_le (by omega) (by omega))]
    · have a1 := t3 (2 * G + 1) (by omega)
      have a2 := t3 (2 * G + 2) (by omega)
      have v1 := a1.2.2.2 (by omega)
      have v2 := a2.2.2.1 (by omega)
      rw [if_neg (nI_ge (by omega) (by omega)), nI_sub1 (by omega), m_rowAt hr (by omega), bd_some, m_rowAt hr (by omega), bd_some, hfl_k (a := 37) (by decide), show 2 * (G + 1) - 1 = 2 * G + 1 by omega, show 2 * (G + 1) = 2 * G + 2 by omega, a1.2.1, a2.2.1, m_canAnswerT ck (ta (G + 1) (by omega)) (by omega) (by omega) v1 (by omega), bd_some, if10]
      have hc := g3 (by omega)
      unfold cgT at hc
      rw [show G + 1 - 1 = G by omega, if_neg (by rw [hc]; decide)]) (by omega)
  have h0 : hsI hm 57 0 (0 : Int32).toNatClampNeg (nI (v 0)) = hfl hm 57 0 0 (0 + 1) (fun i => nI (v (2 * i))) := by
    rw [← hfl_s0, hfl_0]
    rfl
  have this' : l_X12_judge_18 FU (nI r) 1 (hfl hm 57 0 0 (0 + 1) (fun i => nI (v (2 * i)))) = some (nI (G + 1), hfl hm 57 0 0 (G + 1) (fun i => nI (v (2 * i)))) := this
  rw [h0, this', bd_some]
  unfold c_X12_judge_58
  rw [m_endOfT (d.m.fr (sc (G + 1)).k) (ta (G + 1) (by omega)) (by omega) (by omega), bd_some, m_tells, bd_some, nI_sub1 (by omega), show G + 1 - 1 = G by omega]
  exact ⟨_, rfl, sc (G + 1)⟩
theorem e_judge : E1 Rel f_X11_judge f_X12_judge := by
  intro a hx hm h
  show OR _ _
  obtain ⟨b, p, s, d⟩ := h
  have h : Rel hx hm := ⟨b, p, s, d⟩
  unfold f_X11_judge f_X12_judge
  rcases tale b d a with ⟨e, hx2, hm2, e1, e2, e3, e4, e5⟩ | ⟨r, q, v, rfl, t, e1, e2⟩
  · rw [e1, e2, bd_some, bd_some, if_neg e3, if_neg e4]
    exact OR.same e5 rfl rfl
  · have hr := t.1
    obtain ⟨G, g1, g2, g3⟩ := good_ex (cgT p s v) q
    obtain ⟨h2, m1, m2⟩ := m_judge d t g1 g2 g3
    have m0 := m_rowAt hr (show 0 < 40 by omega) hm
    rw [nI_0, (t.2.2.2.2 0 (by omega)).2.1] at m0
    rw [e1, e2, bd_some, bd_some, if_pos rfl, if_pos (inb_nI hr (by omega)), if_pos (show (0 : Int32) ≤ 0 by decide), nI_cl (by omega), x_goodPairs d t g1 g2 g3, bd_some, m0, bd_some, m1, hsI_1, if_pos ⟨rfl, rfl, rfl⟩]
    exact OR.told (h.sc (SX.rfl.sI (by omega)) m2) _ rfl rfl
