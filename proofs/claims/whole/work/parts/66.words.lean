/-! ===== words ===== -/
theorem sub_10 {x : Int32} {n : Nat} (hn : n ≤ 10) (h : sub x n) : ∃ v, v < 1024 ∧ x = nI v := by
  have hv : x.toBitVec.toNat < 2 ^ 10 := by
    apply Nat.lt_pow_two_of_testBit
    intro i hi
    cases e : x.toBitVec.toNat.testBit i
    · rfl
    · have : i < n := h i (by unfold bt; rw [← BitVec.testBit_toNat]; exact e)
      omega
  refine ⟨x.toBitVec.toNat, hv, ?_⟩
  apply Int32.toBitVec_inj.1
  show x.toBitVec = BitVec.ofNat 32 x.toBitVec.toNat
  simp
theorem sub_lt {t N : Nat} (h : t < 2 ^ N) : sub (nI t) N := by
  intro i hi
  by_cases h32 : i < 32
  · rw [bt_nI _ _ h32] at hi
    have h2 := Nat.ge_two_pow_of_testBit hi
    exact (Nat.pow_lt_pow_iff_right (by omega)).mp (Nat.lt_of_le_of_lt h2 h)
  · rw [bt_ge (by omega)] at hi; contradiction
def uN (t : Nat) : Nat := cnt (bt (nI t)) 14
theorem uN14 (t : Nat) : uN t ≤ 14 := cnt_le _ _
theorem bcN {t : Nat} (h : t < 16384) : bc (nI t) = nI (uN t) := bc_eq (n := 14) (by omega) (sub_lt (N := 14) h)
theorem m_bitsN {t : Nat} (h : t < 16384) (hp : AH) : f_X12_bits (nI t) hp = some (nI (uN t), hp) := by
  rw [m_bits (n := 14) (by omega) (sub_lt (N := 14) h), bcN h]
theorem uN_mono {a b : Nat} (ha : a < 16384) (h : a &&& b = a) : uN a ≤ uN b := cnt_mono ((ins_iff ha).mp h) 14
theorem uN_lt {a b : Nat} (ha : a < 16384) (hb : b < 16384) (h : a &&& b = a) (ne : ¬ a = b) : uN a < uN b := by
  refine cnt_grow ((ins_iff ha).mp h) (sub_lt (N := 14) hb) (fun e => ne ?_)
  exact ((nI_eq (by omega) (by omega)).mp e).symm
theorem ins0 {a b : Nat} (ha : a < 16384) : nI a &&& (nI b ^^^ (-1)) = 0 ↔ a &&& b = a := by
  rw [and_not0, ins_iff ha]
/-- taking only the part in w of a good set keeps it good: then the first least lie in w -/
theorem tU_in {C D : Nat → Bool} {w m : Nat} (hm : m < 16384) (hw : w &&& m = w) (hC : ∀ t, C t = (decide (t &&& w = t) && D t)) (g : ∀ z, z &&& m = z → D z = true → D (z &&& w) = true) : ∀ (E : Nat → Bool), (∀ t, E t = (decide (t &&& m = t) && D t)) → ∀ q, Gd C uN 0 (w + 1) q → Gd E uN 0 (m + 1) q := by
  intro E hE q hq
  have hwm := and_le w m hw
  have hz : ∀ z, z < m + 1 → E z = true → C (z &&& w) = true ∧ z &&& w ≤ w := by
    intro z h1 h2
    rw [hE, Bool.and_eq_true, decide_eq_true_eq] at h2
    refine ⟨?_, Nat.and_le_right⟩
    rw [hC, Bool.and_eq_true, decide_eq_true_eq, Nat.and_assoc, Nat.and_self]
    exact ⟨rfl, g z h2.1 h2.2⟩
  cases q with
  | none =>
    intro z _ h2
    cases e : E z
    · rfl
    · obtain ⟨a, b⟩ := hz z h2 e
      rw [hq _ (Nat.zero_le _) (by omega)] at a
      contradiction
  | some y =>
    obtain ⟨-, h2, h3, h4, h5⟩ := hq
    have hCy := h3
    rw [hC, Bool.and_eq_true, decide_eq_true_eq] at h3
    have low : ∀ z, z < m + 1 → E z = true → uN y ≤ uN (z &&& w) := fun z h h' => h4 _ (Nat.zero_le _) (by have := (hz z h h').2; omega) (hz z h h').1
    have zw : ∀ z, z < m + 1 → uN (z &&& w) ≤ uN z := fun z h => by
      refine uN_mono (by have : z &&& w ≤ w := Nat.and_le_right; omega) ?_
      rw [Nat.and_assoc, Nat.and_comm w z, ← Nat.and_assoc, Nat.and_self]
    refine ⟨Nat.zero_le _, by omega, ?_, fun z _ h h' => Nat.le_trans (low z h h') (zw z h), fun z _ h h' => ?_⟩
    · rw [hE, Bool.and_eq_true, decide_eq_true_eq]
      refine ⟨?_, h3.2⟩
      have : y &&& m = y &&& w &&& m := by rw [h3.1]
      rw [this, Nat.and_assoc, hw, h3.1]
    · by_cases e : z &&& w = z
      · refine h5 z (Nat.zero_le _) h ?_
        have := (hz z (by omega) h').1
        rw [e] at this
        exact this
      · have h6 := low z (by omega) h'
        have h7 : uN (z &&& w) < uN z := uN_lt (by have : z &&& w ≤ w := Nat.and_le_right; omega) (by omega) (by rw [Nat.and_assoc, Nat.and_comm w z, ← Nat.and_assoc, Nat.and_self]) e
        omega
def wD (p : PD) (s : SD) (U : Int32) (x t : Nat) : Prop := bt (SW p s (U &&& (nI t ^^^ (-1)))) x = true
noncomputable def wC (p : PD) (s : SD) (U : Int32) (x w t : Nat) : Bool := decide (t &&& w = t) && bt (SW p s (U &&& (nI t ^^^ (-1)))) x
theorem x_wordsL {h : AH} {p : PD} {s : SD} (c : XC h p s) {x w : Nat} (hx : x < p.n) (hw : w < 1024) (U : Int32) : l_X3_wordsFor_28 FU (nI x) U (nI w) (nI w) 0 0 h = some (nI ((tU (wC p s U x w) uN (w + 1)).getD w), h) := by
  have hn := c.1.n10
  have := lpi (fun F (q : Int32 × Int32 × Int32) => l_X3_wordsFor_28 F (nI x) U (nI w) q.1 q.2.1 q.2.2 h) 1024
    (fun j q => ∃ a, j ≤ a ∧ a ≤ w ∧ a &&& w = a ∧ q.2.1 = nI a ∧ q.2.2 = nI j ∧ q.1 = nI ((tU (wC p s U x w) uN a).getD w))
    (fun o => o = some (nI ((tU (wC p s U x w) uN (w + 1)).getD w), h)) (by
    rintro F j ⟨b, sb, i⟩ hj ⟨a, ja, aw, ai, q1, q2, q3⟩
    simp only at q1 q2 q3
    subst q1 q2 q3
    have hbst : (tU (wC p s U x w) uN a).getD w ≤ w ∧ (tU (wC p s U x w) uN a = none → ((tU (wC p s U x w) uN a).getD w) = w) := by
      have hg := tU_g (wC p s U x w) uN a
      cases e : tU (wC p s U x w) uN a with
      | none => exact ⟨Nat.le_refl _, fun _ => rfl⟩
      | some y =>
        rw [e] at hg
        have := hg.2.1
        exact ⟨by show y ≤ w; omega, fun z => by contradiction⟩
    -- the body at a
    have key : ∀ (A : Int32 → Option (Int32 × AH)), (if nI (uN ((tU (wC p s U x w) uN a).getD w)) ≤ nI (uN a) then A (nI ((tU (wC p s U x w) uN a).getD w)) else if bt (SW p s (U &&& (nI a ^^^ (-1)))) x = true then A (nI a) else A (nI ((tU (wC p s U x w) uN a).getD w))) = A (nI ((tU (wC p s U x w) uN (a + 1)).getD w)) := by
      intro A
      have h14 := uN14 a
      have h14' := uN14 ((tU (wC p s U x w) uN a).getD w)
      have hC : wC p s U x w a = bt (SW p s (U &&& (nI a ^^^ (-1)))) x := by
        unfold wC
        rw [decide_eq_true ai, Bool.true_and]
      have hs : tU (wC p s U x w) uN (a + 1) = if wC p s U x w a = true then (match tU (wC p s U x w) uN a with | none => some a | some y => if uN y ≤ uN a then some y else some a) else tU (wC p s U x w) uN a := rfl
      rw [hs, hC]
      by_cases le : uN ((tU (wC p s U x w) uN a).getD w) ≤ uN a
      · rw [if_pos ((nI_leI (by omega) (by omega)).mpr le)]
        by_cases g : bt (SW p s (U &&& (nI a ^^^ (-1)))) x = true
        · rw [if_pos g]
          cases e : tU (wC p s U x w) uN a with
          | none =>
            rw [e] at le
            have : uN w ≤ uN a := le
            have ea : a = w := by
              apply Classical.byContradiction
              intro z
              have := uN_lt (by omega) (by omega) ai z
              omega
            show A (nI w) = A (nI a)
            rw [ea]
          | some y =>
            rw [e] at le
            have le' : uN y ≤ uN a := le
            simp only [if_pos le']
        · rw [if_neg g]
      · rw [if_neg (fun z => le ((nI_leI (by omega) (by omega)).mp z))]
        by_cases g : bt (SW p s (U &&& (nI a ^^^ (-1)))) x = true
        · rw [if_pos g, if_pos g]
          cases e : tU (wC p s U x w) uN a with
          | none => rfl
          | some y =>
            rw [e] at le
            have le' : ¬ uN y ≤ uN a := le
            simp only [if_neg le']
            rfl
        · rw [if_neg g, if_neg g]
    show b_X3_wordsFor_28 (l_X3_wordsFor_28 F) (nI x) U (nI w) _ (nI a) (nI j) h = _ ∨ ∃ t2 : Int32 × Int32 × Int32, _ ∧ b_X3_wordsFor_28 (l_X3_wordsFor_28 F) (nI x) U (nI w) _ (nI a) (nI j) h = l_X3_wordsFor_28 F (nI x) U (nI w) t2.1 t2.2.1 t2.2.2 h
    have hb : b_X3_wordsFor_28 (l_X3_wordsFor_28 F) (nI x) U (nI w) (nI ((tU (wC p s U x w) uN a).getD w)) (nI a) (nI j) h = (fun B => if nI a = nI w then some (B, h) else l_X3_wordsFor_28 F (nI x) U (nI w) B (nI (nxt a w)) (nI (j + 1)) h) (nI ((tU (wC p s U x w) uN (a + 1)).getD w)) := by
      refine Eq.trans ?_ (key (fun B => if nI a = nI w then some (B, h) else l_X3_wordsFor_28 F (nI x) U (nI w) B (nI (nxt a w)) (nI (j + 1)) h))
      unfold b_X3_wordsFor_28 f_X3_nextSubset
      rw [if_neg (show ¬ (1024 : Int32) ≤ nI j from nI_ge (b := 1024) (by omega) (by omega))]
      simp only [x_bc, bd_some, bcN (show a < 16384 by omega), bcN (show (tU (wC p s U x w) uN a).getD w < 16384 by omega), c.aw, x_standW c, x_has _ (show x < 32 by omega), if10, nI_nx (show a < 16384 by omega) (show w < 16384 by omega), nI_1]
      rfl
    by_cases e : a = w
    · left
      rw [hb]
      simp only
      rw [if_pos (by rw [e]), e]
    · right
      rw [hb]
      simp only
      rw [if_neg (fun z => e ((nI_eq (by omega) (by omega)).mp z))]
      obtain ⟨g1, g2⟩ := nxt_gt (by omega) ai (by omega)
      have g3 := and_le _ _ (nxt_sub a w)
      refine ⟨(nI ((tU (wC p s U x w) uN (a + 1)).getD w), nI (nxt a w), nI (j + 1)), ⟨nxt a w, by omega, g3, nxt_sub a w, rfl, rfl, ?_⟩, rfl⟩
      have gap := tU_gap (wC p s U x w) uN (a + 1) (nxt a w - (a + 1)) (fun z h1 h2 => by
        unfold wC
        rw [decide_eq_false, Bool.false_and]
        intro zz
        have := g2 z zz (by omega)
        omega)
      rw [show a + 1 + (nxt a w - (a + 1)) = nxt a w by omega] at gap
      rw [gap]) (by
    rintro F ⟨b, sb, i⟩ ⟨a, ja, aw, -⟩
    omega) (by omega) (nI w, 0, 0) ⟨0, Nat.le_refl _, Nat.zero_le _, Nat.zero_and _, rfl, rfl, rfl⟩
  exact this
theorem m_wordsL {h : AH} {p : PD} {s : SD} (c : MC h p s) {x m : Nat} (hx : x < p.n) (hm : m < 1024) : l_X12_words_46 FU (nI x) (nI m) (nI m) 0 h = some (nI ((tU (wC p s (nI m) x m) uN (m + 1)).getD m), h) := by
  have hn := c.1.n10
  have := lp0 (fun F t => l_X12_words_46 F (nI x) (nI m) (nI ((tU (wC p s (nI m) x m) uN t).getD m)) (nI t) h) m (some (nI ((tU (wC p s (nI m) x m) uN m).getD m), h)) (by
    intro F a ha
    show b_X12_words_46 (l_X12_words_46 F) (nI x) (nI m) _ (nI a) h = l_X12_words_46 F (nI x) (nI m) _ (nI (a + 1)) h
    have hbst : (tU (wC p s (nI m) x m) uN a).getD m ≤ m := by
      have hg := tU_g (wC p s (nI m) x m) uN a
      cases e : tU (wC p s (nI m) x m) uN a with
      | none => exact Nat.le_refl _
      | some y =>
        rw [e] at hg
        have := hg.2.1
        show y ≤ m; omega
    have h14 := uN14 a
    have h14' := uN14 ((tU (wC p s (nI m) x m) uN a).getD m)
    have hC : wC p s (nI m) x m a = (decide (a &&& m = a) && bt (SW p s (nI m &&& (nI a ^^^ (-1)))) x) := rfl
    have hs : tU (wC p s (nI m) x m) uN (a + 1) = if wC p s (nI m) x m a = true then (match tU (wC p s (nI m) x m) uN a with | none => some a | some y => if uN y ≤ uN a then some y else some a) else tU (wC p s (nI m) x m) uN a := rfl
    unfold b_X12_words_46
    rw [if_neg (nI_ge ha (by omega)), m_bitsN (by omega), bd_some, m_bitsN (by omega), bd_some, m_standW c, bd_some, m_has _ (by omega), bd_some, if10, nI_1, hs, hC]
    by_cases ai : a &&& m = a
    · rw [if_pos ((ins0 (by omega)).mpr ai), decide_eq_true ai, Bool.true_and]
      by_cases le : uN ((tU (wC p s (nI m) x m) uN a).getD m) ≤ uN a
      · rw [if_pos ((nI_leI (by omega) (by omega)).mpr le)]
        by_cases g : bt (SW p s (nI m &&& (nI a ^^^ (-1)))) x = true
        · rw [if_pos g]
          cases e : tU (wC p s (nI m) x m) uN a with
          | none =>
            rw [e] at le
            have h1 : uN m ≤ uN a := le
            have := uN_lt (by omega) (by omega) ai (by omega)
            omega
          | some y =>
            rw [e] at le
            have le' : uN y ≤ uN a := le
            simp only [if_pos le']
        · rw [if_neg g]
      · rw [if_neg (fun z => le ((nI_leI (by omega) (by omega)).mp z))]
        by_cases g : bt (SW p s (nI m &&& (nI a ^^^ (-1)))) x = true
        · rw [if_pos g, if_pos g]
          cases e : tU (wC p s (nI m) x m) uN a with
          | none => rfl
          | some y =>
            rw [e] at le
            have le' : ¬ uN y ≤ uN a := le
            simp only [if_neg le']
            rfl
        · rw [if_neg g, if_neg g]
    · rw [if_neg (fun z => ai ((ins0 (by omega)).mp z)), decide_eq_false ai, Bool.false_and, if_neg (c := false = true) (by decide)]) (by
    intro F
    show b_X12_words_46 (l_X12_words_46 F) (nI x) (nI m) _ (nI m) h = _
    unfold b_X12_words_46
    rw [if_pos (Int32.le_refl _)]) (by omega)
  rw [nI_0] at this
  have e0 : (tU (wC p s (nI m) x m) uN 0).getD m = m := rfl
  rw [e0] at this
  rw [this]
  congr 3
  have hs : tU (wC p s (nI m) x m) uN (m + 1) = if wC p s (nI m) x m m = true then (match tU (wC p s (nI m) x m) uN m with | none => some m | some y => if uN y ≤ uN m then some y else some m) else tU (wC p s (nI m) x m) uN m := rfl
  rw [hs]
  have hg := tU_g (wC p s (nI m) x m) uN m
  by_cases g : wC p s (nI m) x m m = true
  · rw [if_pos g]
    cases e : tU (wC p s (nI m) x m) uN m with
    | none => rfl
    | some y =>
      rw [e] at hg
      obtain ⟨-, h2, h3, -⟩ := hg
      unfold wC at h3
      rw [Bool.and_eq_true, decide_eq_true_eq] at h3
      have := uN_mono (by omega) h3.1
      simp only [if_pos this]
  · rw [if_neg g]
