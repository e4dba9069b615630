theorem x_rf1 {h : AH} {P : PD} (v : PV P) (c : XPl h 1 P) {x : Nat} (hx : x < 32) : f_X6_reasonsFor 1 (nI x) h = some (RF P x, h) := by
  have hm := v.m14
  unfold f_X6_reasonsFor
  have := lp0 (fun F j => l_X6_reasonsFor_4 F 1 (nI x) (ms (fun k => decide (P.co k = x)) j) (nI j) h) P.m (some (RF P x, h)) (by
    intro F j hj
    show b_X6_reasonsFor_4 (l_X6_reasonsFor_4 F) 1 (nI x) _ (nI j) h = _
    have h10 := v.co10 hj
    have e1 : (nI (P.co j) = nI x) ↔ P.co j = x := nI_eq (by omega) (by omega)
    unfold b_X6_reasonsFor_4
    rw [c.2.1, if_neg (nI_ge hj (by omega)), if_pos (inb_nI (by omega) (by omega)), nI_cl (by omega), (c.2.2.2.2 j hj).1, nI_1]
    by_cases e : P.co j = x
    · rw [if_pos (e1.mpr e), ms_s (decide_eq_true e)]
    · rw [if_neg (fun z => e (e1.mp z)), ms_n (by rw [decide_eq_false e]; decide)]) (by
    intro F
    show b_X6_reasonsFor_4 (l_X6_reasonsFor_4 F) 1 (nI x) _ (nI P.m) h = _
    unfold b_X6_reasonsFor_4
    rw [c.2.1, if_pos (Int32.le_refl _)]
    rfl) (by omega)
  rw [nI_0] at this
  show bd (l_X6_reasonsFor_4 FU 1 (nI x) (ms (fun k => decide (P.co k = x)) 0) 0 h) _ = _
  rw [this]
  rfl
theorem bc_RF {P : PD} (v : PV P) (x : Nat) : bc (RF P x) = nI (cnt (fun k => decide (P.co k = x)) P.m) := by
  have hm := v.m14
  have hs : sub (RF P x) P.m := sub_ms _ _ (by omega)
  rw [bc_eq (n := P.m) (by omega) hs, cnt14 (n := P.m) (by omega) hs]
  congr 1
  apply cnt_c
  intro i hi
  rw [RF, bt_ms _ _ (by omega), decide_eq_true hi, Bool.true_and]
def tkR (P : PD) (d : Nat) : Bool := decide (d < P.n) && (!isE P d && decide (cnt (fun k => decide (P.co k = d)) P.m < 4))
theorem x_takes {h : AH} {P : PD} (v : PV P) (c : XPl h 1 P) {d : Nat} (hd : d < 10) : f_X6_takesReason 1 (nI d) h = some (if tkR P d = true then 1 else 0, h) := by
  have hn := v.n10
  have h4 := v.2.2.2.2 d
  unfold f_X6_takesReason f_X6_bitsOf
  rw [if_neg (nI_neg (by omega)), c.1, if_pos rfl, bd_some, x_has _ (by omega), bd_some, if10, x_rf1 v c (by omega), bd_some, x_bc, bd_some, bc_RF v, zn0, zn1]
  have i1 : (1 : Int32).toNatClampNeg = 1 := rfl
  have i2 : (2 : Int32).toNatClampNeg = 2 := rfl
  rw [i1, i2, bt_or, c.2.2.2.1 1 (by omega), c.2.2.2.1 2 (by omega)]
  unfold tkR
  by_cases z1 : d < P.n
  · rw [if_neg (nI_ge z1 (by omega)), decide_eq_true z1, Bool.true_and]
    have hE : (decide (d < P.n ∧ P.ki d = 1) || decide (d < P.n ∧ P.ki d = 2)) = isE P d := by
      unfold isE
      simp [z1]
    rw [hE]
    cases isE P d
    · rw [if_neg (by decide), Bool.not_false, Bool.true_and]
      by_cases z2 : cnt (fun k => decide (P.co k = d)) P.m < 4
      · rw [if_neg (show ¬ (4 : Int32) ≤ nI _ from nI_ge (b := 4) z2 (by omega)), if_pos (decide_eq_true z2)]
      · rw [if_pos (show (4 : Int32) ≤ nI _ from nI_le (a := 4) (by omega) (by omega)), if_neg (by rw [decide_eq_false z2]; decide)]
    · rw [if_pos rfl, Bool.not_true, Bool.false_and, if_neg (by decide)]
  · rw [if_pos (nI_le (by omega) (by omega)), decide_eq_false z1, Bool.false_and, if_neg (by decide)]
theorem m_readFor {h : AH} {P : PD} {su : Nat → Nat} {a : Nat} (v : PV P) (c : DM h P su a) {d : Nat} (hd : d < 10) : f_X12_readFor (nI d) h = some (nI (cnt (fun k => decide (P.co k = d)) P.m), h) := by
  have hm := v.m14
  unfold f_X12_readFor
  have := lp0 (fun F j => l_X12_readFor_4 F (nI d) (nI (cnt (fun k => decide (P.co k = d)) j)) (nI j) h) P.m (some (nI (cnt (fun k => decide (P.co k = d)) P.m), h)) (by
    intro F j hj
    show b_X12_readFor_4 (l_X12_readFor_4 F) (nI d) _ (nI j) h = _
    have h10 := v.co10 hj
    have e1 : (nI (P.co j) = nI d) ↔ P.co j = d := nI_eq (by omega) (by omega)
    unfold b_X12_readFor_4
    rw [c.2.1, if_neg (nI_ge hj (by omega)), if_pos (inb_nI (by omega) (by omega)), nI_cl (by omega), (c.2.2.2.1 j hj).1, nI_1 j]
    by_cases e : P.co j = d
    · rw [if_pos (e1.mpr e), cnt_s1 (P := fun k => decide (P.co k = d)) (decide_eq_true e)]
    · rw [if_neg (fun z => e (e1.mp z)), cnt_s0 (P := fun k => decide (P.co k = d)) (by rw [decide_eq_false e]; decide)]) (by
    intro F
    show b_X12_readFor_4 (l_X12_readFor_4 F) (nI d) _ (nI P.m) h = _
    unfold b_X12_readFor_4
    rw [c.2.1, if_pos (Int32.le_refl _)]) (by omega)
  have this' : l_X12_readFor_4 FU (nI d) 0 0 h = some (nI (cnt (fun k => decide (P.co k = d)) P.m), h) := this
  rw [this']
  rfl
/-- a figure from lo to hi at b -/
def sg (N : Nat) (tx : Nat → Int32) (lo hi b : Nat) : Option Nat := match dgt N tx b with
  | some d => if lo ≤ d ∧ d ≤ hi then some d else none
  | none => none
theorem m_figure {hx h : AH} {P : PD} {su : Nat → Nat} {r N b : Nat} {tx : Nat → Int32} (hr : r < 4) (hN : N ≤ 80) (hb : b < 900) (d : DM h P su b) (t : TX hx h r N tx) {lo hi : Nat} (hlo : lo ≤ 9) (hhi : hi ≤ 9) : ∃ h2, SM h h2 ∧ ((∃ q, sg N tx lo hi b = some q ∧ f_X12_figure (nI r) (nI lo) (nI hi) h = some (1, h2) ∧ DM h2 P su (b + 1) ∧ h2.1 34 0 20 = nI q) ∨ (sg N tx lo hi b = none ∧ f_X12_figure (nI r) (nI lo) (nI hi) h = some (0, h2) ∧ h2.1 34 0 19 = nI b)) := by
  unfold f_X12_figure
  rw [d.2.2.2.2, m_byte t hr hN (by omega), bd_some]
  have hw : (if b < N then tx b else 0) - 48 = dgM N tx b := rfl
  have dn := d.num (dgM N tx b)
  have e20 : (hsI h 34 0 20 (dgM N tx b)).1 34 0 20 = dgM N tx b := by rw [hsI_1, if_pos ⟨rfl, rfl, rfl⟩]
  rw [hw, e20, m_in, bd_some, if10, dn.2.2.2.2, nI_1, Int32.add_zero, nI_toInt (by omega), nI_toInt (by omega), znc]
  have sm1 : SM h (hsI h 34 0 20 (dgM N tx b)) := SM.rfl.sI (by omega)
  unfold sg
  rcases dgM_cs (N := N) (tx := tx) (a := b) with ⟨q, q10, q1, q2⟩ | ⟨q1, q2⟩
  · have qi : (dgM N tx b).toInt = q := by rw [q2, nI_toInt (by omega)]
    rw [q1, qi]
    simp only
    by_cases z : lo ≤ q ∧ q ≤ hi
    · have z' : (lo : Int) ≤ q ∧ (q : Int) ≤ hi := by omega
      rw [if_pos z', if_pos z', if_pos z]
      refine ⟨_, sm1.sI (by omega), Or.inl ⟨q, rfl, rfl, dn.at (b + 1), ?_⟩⟩
      rw [hsI_1, if_neg (by omega), e20, q2]
    · have z' : ¬ ((lo : Int) ≤ q ∧ (q : Int) ≤ hi) := by omega
      rw [if_neg z', if_neg z', if_neg z]
      exact ⟨_, sm1.sI (by omega), Or.inr ⟨rfl, rfl, by rw [hsI_1, if_pos ⟨rfl, rfl, rfl⟩]⟩⟩
  · have z' : ¬ ((lo : Int) ≤ (dgM N tx b).toInt ∧ (dgM N tx b).toInt ≤ hi) := by omega
    rw [q1, if_neg z', if_neg z']
    exact ⟨_, sm1.sI (by omega), Or.inr ⟨rfl, rfl, by rw [hsI_1, if_pos ⟨rfl, rfl, rfl⟩]⟩⟩
def SUV (P : PD) (su : Nat → Nat) : Prop := ∀ k, k < P.m → 1 ≤ su k ∧ su k ≤ 9
/-- one more reason -/
def addR (P : PD) (d : Nat) (S : Int32) : PD := (P.n, P.m + 1, P.ki, fun k => if k = P.m then d else P.co k, fun k => if k = P.m then S else P.pa k)
theorem addR_v {P : PD} (v : PV P) {d : Nat} {S : Int32} (hm : P.m < 14) (ht : tkR P d = true) (h1 : sub S P.n) (h2 : bt S d = false) (h3 : 1 ≤ cnt (bt S) 14) (h4 : cnt (bt S) 14 ≤ 3) : PV (addR P d S) := by
  obtain ⟨v1, v2, v3, v4, v5⟩ := v
  unfold tkR at ht
  rw [Bool.and_eq_true, Bool.and_eq_true, decide_eq_true_eq, decide_eq_true_eq, Bool.not_eq_true'] at ht
  obtain ⟨t1, t2, t3⟩ := ht
  refine ⟨v1, by show P.m + 1 ≤ 14; omega, v3, fun k hk => ?_, fun x => ?_⟩
  · have hk' : k < P.m + 1 := hk
    show (if k = P.m then d else P.co k) < P.n ∧ P.ki (if k = P.m then d else P.co k) ≠ 1 ∧ P.ki (if k = P.m then d else P.co k) ≠ 2 ∧ sub (if k = P.m then S else P.pa k) P.n ∧ bt (if k = P.m then S else P.pa k) (if k = P.m then d else P.co k) = false ∧ (if k = P.m then S else P.pa k) ≠ 0 ∧ cnt (bt (if k = P.m then S else P.pa k)) P.n ≤ 3
    by_cases e : k = P.m
    · simp only [if_pos e]
      unfold isE at t2
      rw [Bool.or_eq_false_iff, decide_eq_false_iff_not, decide_eq_false_iff_not] at t2
      have h5 := cnt14 (n := P.n) (by omega) h1
      refine ⟨t1, t2.1, t2.2, h1, h2, fun z => ?_, by omega⟩
      have := (cnt0 (n := 14) (by omega) (sub_up h1 (by omega))).mpr z
      omega
    · simp only [if_neg e]
      exact v4 k (by omega)
  · show cnt (fun k => decide ((if k = P.m then d else P.co k) = x)) (P.m + 1) ≤ 4
    rw [cnt_suc, cnt_c (Q := fun k => decide (P.co k = x)) P.m (fun i hi => by rw [if_neg (by omega)])]
    have h5 := v5 x
    rw [if_pos rfl]
    by_cases e : d = x
    · subst e
      rw [if_pos (decide_eq_true rfl)]; omega
    · rw [if_neg (by rw [decide_eq_false e]; decide)]; omega
