/-! ===== falls ===== -/
noncomputable def fD (p : PD) (s : SD) (x t : Nat) : Bool := decide (uN t < 4) && !bt (SW p s (nI t)) x
noncomputable def fC (p : PD) (s : SD) (x w t : Nat) : Bool := decide (t &&& w = t) && fD p s x t
def few : Option Nat → Nat
  | none => 4
  | some y => uN y
theorem few_step (p : PD) (s : SD) (x w : Nat) {a : Nat} (ai : a &&& w = a) : few (tU (fC p s x w) uN a) ≤ 4 ∧ ∀ {α : Type} (A : Nat → Nat → α), (if few (tU (fC p s x w) uN a) ≤ uN a then A ((tU (fC p s x w) uN a).getD 0) (few (tU (fC p s x w) uN a)) else if bt (SW p s (nI a)) x = true then A ((tU (fC p s x w) uN a).getD 0) (few (tU (fC p s x w) uN a)) else A a (uN a)) = A ((tU (fC p s x w) uN (a + 1)).getD 0) (few (tU (fC p s x w) uN (a + 1))) := by
  have hg := tU_g (fC p s x w) uN a
  have h4 : few (tU (fC p s x w) uN a) ≤ 4 := by
    cases e : tU (fC p s x w) uN a with
    | none => exact Nat.le_refl _
    | some y =>
      rw [e] at hg
      have h3 := hg.2.2.1
      unfold fC fD at h3
      simp only [Bool.and_eq_true, decide_eq_true_eq] at h3
      show uN y ≤ 4
      omega
  refine ⟨h4, fun A => ?_⟩
  have hs : tU (fC p s x w) uN (a + 1) = if fC p s x w a = true then (match tU (fC p s x w) uN a with | none => some a | some y => if uN y ≤ uN a then some y else some a) else tU (fC p s x w) uN a := rfl
  have hC : fC p s x w a = (decide (uN a < 4) && !bt (SW p s (nI a)) x) := by
    unfold fC fD
    rw [decide_eq_true ai, Bool.true_and]
  rw [hs, hC]
  by_cases le : few (tU (fC p s x w) uN a) ≤ uN a
  · rw [if_pos le]
    cases e : tU (fC p s x w) uN a with
    | none =>
      rw [e] at le
      have le' : 4 ≤ uN a := le
      rw [if_neg (by rw [decide_eq_false (by omega)]; simp)]
    | some y =>
      rw [e] at le
      have le' : uN y ≤ uN a := le
      simp only [if_pos le']
      split <;> rfl
  · rw [if_neg le, decide_eq_true (by omega), Bool.true_and]
    by_cases g : bt (SW p s (nI a)) x = true
    · rw [if_pos g, g, if_neg (by decide)]
    · rw [if_neg g, if_pos (by simpa using g)]
      cases e : tU (fC p s x w) uN a with
      | none => rfl
      | some y =>
        rw [e] at le
        have le' : ¬ uN y ≤ uN a := le
        simp only [if_neg le']
        rfl
theorem x_fellL {h : AH} {p : PD} {s : SD} (c : XC h p s) {x w : Nat} (hx : x < p.n) (hw : w < 1024) : l_X3_fellingOf_23 FU (nI x) (nI w) 0 4 0 0 h = some (nI ((tU (fC p s x w) uN (w + 1)).getD 0), h) := by
  have hn := c.1.n10
  have := lpi (fun F (q : Int32 × Int32 × Int32 × Int32) => l_X3_fellingOf_23 F (nI x) (nI w) q.1 q.2.1 q.2.2.1 q.2.2.2 h) 1024
    (fun j q => ∃ a, j ≤ a ∧ a ≤ w ∧ a &&& w = a ∧ q.2.2.1 = nI a ∧ q.2.2.2 = nI j ∧ q.1 = nI ((tU (fC p s x w) uN a).getD 0) ∧ q.2.1 = nI (few (tU (fC p s x w) uN a)))
    (fun o => o = some (nI ((tU (fC p s x w) uN (w + 1)).getD 0), h)) (by
    rintro F j ⟨b, fw, sb, i⟩ hj ⟨a, ja, aw, ai, q1, q2, q3, q4⟩
    simp only at q1 q2 q3 q4
    subst q1 q2 q3 q4
    obtain ⟨h4, key⟩ := few_step p s x w ai
    have h14 := uN14 a
    show b_X3_fellingOf_23 (l_X3_fellingOf_23 F) (nI x) (nI w) _ _ (nI a) (nI j) h = _ ∨ ∃ t2 : Int32 × Int32 × Int32 × Int32, _ ∧ b_X3_fellingOf_23 (l_X3_fellingOf_23 F) (nI x) (nI w) _ _ (nI a) (nI j) h = l_X3_fellingOf_23 F (nI x) (nI w) t2.1 t2.2.1 t2.2.2.1 t2.2.2.2 h
    have hb : b_X3_fellingOf_23 (l_X3_fellingOf_23 F) (nI x) (nI w) (nI ((tU (fC p s x w) uN a).getD 0)) (nI (few (tU (fC p s x w) uN a))) (nI a) (nI j) h = (fun B f => if nI a = nI w then some (nI B, h) else l_X3_fellingOf_23 F (nI x) (nI w) (nI B) (nI f) (nI (nxt a w)) (nI (j + 1)) h) ((tU (fC p s x w) uN (a + 1)).getD 0) (few (tU (fC p s x w) uN (a + 1))) := by
      refine Eq.trans ?_ (key (fun B f => if nI a = nI w then some (nI B, h) else l_X3_fellingOf_23 F (nI x) (nI w) (nI B) (nI f) (nI (nxt a w)) (nI (j + 1)) h))
      unfold b_X3_fellingOf_23 f_X3_nextSubset
      rw [if_neg (show ¬ (1024 : Int32) ≤ nI j from nI_ge (b := 1024) (by omega) (by omega))]
      simp only [x_bc, bd_some, bcN (show a < 16384 by omega), c.aw, x_standW c, x_has _ (show x < 32 by omega), if10, nI_nx (show a < 16384 by omega) (show w < 16384 by omega), nI_1]
      simp only [nI_leI (show few (tU (fC p s x w) uN a) < 2 ^ 31 by omega) (show uN a < 2 ^ 31 by omega)]
      rfl
    by_cases e : a = w
    · left
      rw [hb]
      simp only
      rw [if_pos (by rw [e]), e]
    · right
      rw [hb]
      simp only
      rw [if_neg (fun z => e ((nI_eq (by omega) (by omega)).mp z))]
      obtain ⟨g1, g2⟩ := nxt_gt (by omega) ai (by omega)
      have g3 := and_le _ _ (nxt_sub a w)
      have gap := tU_gap (fC p s x w) uN (a + 1) (nxt a w - (a + 1)) (fun z h1 h2 => by
        unfold fC
        rw [decide_eq_false, Bool.false_and]
        intro zz
        have := g2 z zz (by omega)
        omega)
      rw [show a + 1 + (nxt a w - (a + 1)) = nxt a w by omega] at gap
      refine ⟨(nI ((tU (fC p s x w) uN (a + 1)).getD 0), nI (few (tU (fC p s x w) uN (a + 1))), nI (nxt a w), nI (j + 1)), ⟨nxt a w, by omega, g3, nxt_sub a w, rfl, rfl, ?_, ?_⟩, rfl⟩
      · rw [gap]
      · rw [gap]) (by
    rintro F ⟨b, fw, sb, i⟩ ⟨a, ja, aw, -⟩
    omega) (by omega) (0, 4, 0, 0) ⟨0, Nat.le_refl _, Nat.zero_le _, Nat.zero_and _, rfl, rfl, rfl, rfl⟩
  exact this
theorem AL_nI : ∀ n, n < 11 → AL n = nI (2 ^ n - 1) := by decide +kernel
theorem m_fallsL {h : AH} {p : PD} {s : SD} (c : MC h p s) {x m : Nat} (hx : x < p.n) (hm : ∀ t, t < 2 ^ p.n → (bt (nI t) x = false ↔ t &&& m = t)) : l_X12_falls_20 FU (nI x) (-9) 0 h = some (oI (tU (fC p s x m) uN (2 ^ p.n)), h) := by
  have hn := c.1.n10
  have h10 : 2 ^ p.n ≤ 2 ^ 10 := Nat.pow_le_pow_right (by omega) hn
  have hp : 0 < 2 ^ p.n := Nat.two_pow_pos _
  have := lp0 (fun F t => l_X12_falls_20 F (nI x) (oI (tU (fC p s x m) uN t)) (nI t) h) (2 ^ p.n) (some (oI (tU (fC p s x m) uN (2 ^ p.n)), h)) (by
    intro F a ha
    show b_X12_falls_20 (l_X12_falls_20 F) (nI x) _ (nI a) h = l_X12_falls_20 F (nI x) _ (nI (a + 1)) h
    have h14 := uN14 a
    have hC : fC p s x m a = (decide (a &&& m = a) && (decide (uN a < 4) && !bt (SW p s (nI a)) x)) := rfl
    have hs : tU (fC p s x m) uN (a + 1) = if fC p s x m a = true then (match tU (fC p s x m) uN a with | none => some a | some y => if uN y ≤ uN a then some y else some a) else tU (fC p s x m) uN a := rfl
    have hg := tU_g (fC p s x m) uN a
    unfold b_X12_falls_20
    rw [m_allC c, bd_some, AL_nI p.n (by omega), if_neg (fun z => by have := (nI_ltI (by omega) (by omega)).mp z; omega), m_has _ (by omega), bd_some, if10, m_bitsN (by omega), bd_some, m_standW c, bd_some, m_has _ (by omega), bd_some, if10, nI_1, hs, hC]
    by_cases ai : bt (nI a) x = true
    · rw [if_pos ai, decide_eq_false (fun z => by rw [(hm a ha).mpr z] at ai; contradiction), Bool.false_and, if_neg (c := false = true) (by decide)]
    · rw [if_neg ai, decide_eq_true ((hm a ha).mp (by simpa using ai)), Bool.true_and]
      by_cases u4 : 4 ≤ uN a
      · rw [if_pos (show (4 : Int32) ≤ nI (uN a) from (nI_leI (a := 4) (by omega) (by omega)).mpr u4), decide_eq_false (by omega), Bool.false_and, if_neg (c := false = true) (by decide)]
      · rw [if_neg (show ¬ (4 : Int32) ≤ nI (uN a) from fun z => u4 ((nI_leI (a := 4) (by omega) (by omega)).mp z)), decide_eq_true (by omega), Bool.true_and]
        cases e : tU (fC p s x m) uN a with
        | none =>
          show (if (-9 : Int32) = -9 then _ else _) = _
          rw [if_pos rfl]
          by_cases g : bt (SW p s (nI a)) x = true
          · rw [if_pos g, g]; rfl
          · rw [if_neg g, if_pos (by simpa using g)]; rfl
        | some y =>
          rw [e] at hg
          have hy := hg.2.1
          have hy14 := uN14 y
          show (if nI y = -9 then _ else bd (f_X12_bits (nI a) h) _) = _
          rw [if_neg (nI_n9 (by omega)), m_bitsN (by omega), bd_some]
          show bd (f_X12_bits (nI y) h) _ = _
          rw [m_bitsN (by omega), bd_some]
          by_cases le : uN y ≤ uN a
          · rw [if_pos ((nI_leI (by omega) (by omega)).mpr le)]
            simp only [if_pos le]
            split <;> rfl
          · rw [if_neg (fun z => le ((nI_leI (by omega) (by omega)).mp z))]
            simp only [if_neg le]
            rw [m_standW c, bd_some, m_has _ (by omega), bd_some, if10]
            by_cases g : bt (SW p s (nI a)) x = true
            · rw [if_pos g, g]; rfl
            · rw [if_neg g, if_pos (by simpa using g)]; rfl) (by
    intro F
    show b_X12_falls_20 (l_X12_falls_20 F) (nI x) _ (nI (2 ^ p.n)) h = _
    unfold b_X12_falls_20
    rw [m_allC c, bd_some, AL_nI p.n (by omega), if_pos ((nI_ltI (by omega) (by omega)).mpr (by omega))]) (by omega)
  exact this
theorem e_falls : E1 Rel f_X11_falls f_X12_falls := by
  intro a hx hm h
  show OR _ _
  obtain ⟨b, p, s, d⟩ := h
  have h : Rel hx hm := ⟨b, p, s, d⟩
  have hn := d.1.n10
  unfold f_X11_falls f_X12_falls
  rw [x_isClaim d.x, m_isClaim d.m, bd_some, bd_some, if10, if10]
  by_cases hb : inb a p.n = true
  rotate_left
  · rw [if_neg hb, if_neg hb]; exact OR.same h rfl rfl
  obtain ⟨x, hxn, rfl⟩ := inb_ex hb
  rw [if_pos hb, if_pos hb, x_standing d.x, m_standNow d.m, bd_some, bd_some, x_has _ (by omega), m_has _ (by omega), bd_some, bd_some, if10, if10]
  by_cases hs : bt (SN p s) x = true
  rotate_left
  · rw [if_neg hs, if_neg hs, m_tells, bd_some]; exact OR.told h _ rfl rfl
  rw [if_pos hs, if_pos hs]
  unfold f_X3_fellingOf
  rw [x_reach d.x hxn, bd_some, x_standing d.x, bd_some]
  have hAx : sub (AL p.n &&& (((1 : Int32) <<< (nI x &&& 31)) ^^^ (-1))) p.n := sub_and (fun i hi => by
    by_cases i32 : i < 32
    · rw [bt_AL (by omega) i32] at hi; exact of_decide_eq_true hi
    · rw [bt_ge (by omega)] at hi; contradiction)
  obtain ⟨m, hm', eM⟩ := sub_10 hn hAx
  have bM : ∀ i, i < 32 → (bt (nI m) i = true ↔ i < p.n ∧ ¬ i = x) := fun i hi => by
    rw [← eM, bt_and, Bool.and_eq_true, bt_AL (by omega) hi, bt_not _ hi, bt_sl _ (by omega) _ hi, decide_eq_true_eq]
    simp
  have hW : sub ((RC p s x &&& SN p s) &&& (((1 : Int32) <<< (nI x &&& 31)) ^^^ (-1))) p.n := sub_and (sub_and (fun i hi => ((bt_RC d.1 hxn i).mp hi).lt d.1 hxn))
  obtain ⟨w, hw, eW⟩ := sub_10 hn hW
  have bW : ∀ i, i < 32 → (bt (nI w) i = true ↔ bt (RC p s x) i = true ∧ bt (SN p s) i = true ∧ ¬ i = x) := fun i hi => by
    rw [← eW, bt_and, bt_and, Bool.and_eq_true, Bool.and_eq_true, bt_not _ hi, bt_sl _ (by omega) _ hi]
    simp [and_assoc]
  have h2n : 2 ^ p.n ≤ 1024 := Nat.pow_le_pow_right (n := 2) (by omega) hn
  have ltn : ∀ t, t < 2 ^ p.n → t < 16384 := fun t ht => by omega
  have hmi : ∀ t, t < 2 ^ p.n → (bt (nI t) x = false ↔ t &&& m = t) := by
    intro t ht
    rw [ins_iff (ltn t ht)]
    constructor
    · intro h1 i hi
      have h2 := sub_lt ht i hi
      refine (bM i (by omega)).mpr ⟨h2, fun z => ?_⟩
      rw [z, h1] at hi; contradiction
    · intro h1
      cases e : bt (nI t) x
      · rfl
      · exact absurd rfl ((bM x (by omega)).mp (h1 x e)).2
  rw [eW, x_fellL d.x hxn hw, bd_some, m_fallsL d.m hxn hmi, bd_some]
  have wm : w &&& m = w := by
    rw [ins_iff (by omega)]
    intro i hi
    by_cases i32 : i < 32
    · have := (bW i i32).mp hi
      exact (bM i i32).mpr ⟨((bt_RC d.1 hxn i).mp this.1).lt d.1 hxn, this.2.2⟩
    · rw [bt_ge (by omega)] at hi; contradiction
  have mlt : m < 2 ^ p.n := by
    apply Nat.lt_pow_two_of_testBit
    intro i hi
    cases e : m.testBit i
    · rfl
    · by_cases i32 : i < 32
      · have := (bM i i32).mp (by rw [bt_nI _ _ i32]; exact e)
        omega
      · have h1 := Nat.ge_two_pow_of_testBit e
        have h2 : 2 ^ 10 ≤ 2 ^ i := Nat.pow_le_pow_right (by omega) (by omega)
        omega
  have hg : ∀ z, z &&& m = z → fD p s x z = true → fD p s x (z &&& w) = true := by
    intro z hz h1
    have zm := and_le z m hz
    unfold fD at h1 ⊢
    rw [Bool.and_eq_true, decide_eq_true_eq] at h1 ⊢
    have hzw : z &&& w &&& z = z &&& w := by rw [Nat.and_assoc, Nat.and_comm w z, ← Nat.and_assoc, Nat.and_self]
    have hlw : z &&& w ≤ w := Nat.and_le_right
    refine ⟨Nat.lt_of_le_of_lt (uN_mono (by omega) hzw) h1.1, ?_⟩
    cases e : bt (SW p s (nI (z &&& w))) x
    · rfl
    · have : bt (SW p s (nI z)) x = true := SW_rel d.1 hxn (fun i r1 r2 r3 => by
        have hi := ((bt_RC d.1 hxn i).mp r1).lt d.1 hxn
        rw [← nI_and, bt_and, r3, Bool.true_and]
        refine (bW i (by omega)).mpr ⟨r1, r2, fun zx => ?_⟩
        have := (hmi z (by omega)).mpr hz
        rw [zx, this] at r3
        contradiction) e
      rw [this] at h1
      exact absurd h1.2 (by decide)
  have hx1 := tU_g (fC p s x w) uN (w + 1)
  have hy1 := tU_in (C := fC p s x w) (D := fD p s x) (by omega) wm (fun t => rfl) hg (fC p s x m) (fun t => rfl) _ hx1
  have e := (tU_g (fC p s x m) uN (m + 1)).uniq hy1
  have gap := tU_gap (fC p s x m) uN (m + 1) (2 ^ p.n - (m + 1)) (fun z h1 h2 => by
    unfold fC
    rw [decide_eq_false, Bool.false_and]
    intro zz
    have := and_le z m zz
    omega)
  rw [show m + 1 + (2 ^ p.n - (m + 1)) = 2 ^ p.n by omega] at gap
  rw [gap, e]
  unfold c_X12_falls_58
  cases q : tU (fC p s x w) uN (w + 1) with
  | none =>
    show OR (if (0 : Int32) = 0 then _ else _) (if (-9 : Int32) = -9 then _ else _)
    rw [if_pos rfl, if_pos rfl]
    exact OR.same h rfl rfl
  | some y =>
    rw [q] at hx1
    have hy := hx1.2.1
    have y0 : ¬ y = 0 := by
      intro z
      have h3 := hx1.2.2.1
      rw [z] at h3
      unfold fC fD at h3
      rw [nI_0, SW_0 d.1, hs] at h3
      simp at h3
    show OR (if nI y = 0 then _ else _) (if nI y = -9 then _ else bd (f_X12_bits (nI y) hm) _)
    rw [if_neg (fun z => y0 ((nI_eq0 (by omega)).mp z)), if_neg (nI_n9 (by omega)), m_bitsN (by omega), bd_some, m_tells, bd_some]
    show OR (bd (f_J6_bitCount_0f7a4 (nI y) _) _) _
    rw [x_bc, bd_some, bcN (by omega)]
    exact OR.told h _ rfl rfl
