/-! ===== usable for, at a loss, over ===== -/
def UF (p : PD) (s : SD) (x : Nat) : Int32 := ms (fun k => decide (p.co k = x) && us p s k) p.m
theorem x_usableFor {h : AH} {p : PD} {s : SD} (c : XC h p s) {x : Nat} (hx : x < 32) : f_X0_usableFor (nI x) h = some (UF p s x, h) := by
  have hm := c.1.m14
  unfold f_X0_usableFor
  have := lp0 (fun F j => l_X0_usableFor_4 F (nI x) (ms (fun k => decide (p.co k = x) && us p s k) j) (nI j) h) p.m (some (UF p s x, h)) (by
    intro F j hj
    show b_X0_usableFor_4 (l_X0_usableFor_4 F) (nI x) _ (nI j) h = _
    have h1 := c.1.co10 hj
    unfold b_X0_usableFor_4
    rw [c.m, if_neg (nI_ge hj (by omega)), if_pos (inb_nI (by omega) (by omega)), nI_cl (by omega), c.co hj, nI_1, x_isUsable c hj, bd_some, if10]
    by_cases e : p.co j = x
    · rw [if_pos (by rw [e])]
      by_cases f : us p s j = true
      · rw [if_pos f, ms_s (by simp [e, f])]
      · rw [if_neg f, ms_n (by simp [f])]
    · rw [if_neg (by rw [nI_eq (by omega) (by omega)]; exact e), ms_n (by simp [e])]) (by
    intro F
    show b_X0_usableFor_4 (l_X0_usableFor_4 F) (nI x) _ (nI p.m) h = _
    unfold b_X0_usableFor_4
    rw [c.m, if_pos (Int32.le_refl _)]
    rfl) (by omega)
  rw [nI_0] at this
  show bd (l_X0_usableFor_4 FU (nI x) (ms (fun k => decide (p.co k = x) && us p s k) 0) 0 h) _ = _
  rw [this]
  rfl
theorem m_usableFor {h : AH} {p : PD} {s : SD} (c : MC h p s) {x : Nat} (hx : x < 32) : f_X12_usableFor (nI x) h = some (UF p s x, h) := by
  have hm := c.1.m14
  unfold f_X12_usableFor
  have := lp0 (fun F j => l_X12_usableFor_4 F (nI x) (ms (fun k => decide (p.co k = x) && us p s k) j) (nI j) h) p.m (some (UF p s x, h)) (by
    intro F j hj
    show b_X12_usableFor_4 (l_X12_usableFor_4 F) (nI x) _ (nI j) h = _
    have h1 := c.1.co10 hj
    unfold b_X12_usableFor_4
    rw [c.m, if_neg (nI_ge hj (by omega)), if_pos (inb_nI (by omega) (by omega)), nI_cl (by omega), c.co hj, nI_1, m_isUsable c hj, bd_some, if10]
    by_cases e : p.co j = x
    · rw [if_pos (by rw [e])]
      by_cases f : us p s j = true
      · rw [if_pos f, ms_s (by simp [e, f])]
      · rw [if_neg f, ms_n (by simp [f])]
    · rw [if_neg (by rw [nI_eq (by omega) (by omega)]; exact e), ms_n (by simp [e])]) (by
    intro F
    show b_X12_usableFor_4 (l_X12_usableFor_4 F) (nI x) _ (nI p.m) h = _
    unfold b_X12_usableFor_4
    rw [c.m, if_pos (Int32.le_refl _)]
    rfl) (by omega)
  rw [nI_0] at this
  show bd (l_X12_usableFor_4 FU (nI x) (ms (fun k => decide (p.co k = x) && us p s k) 0) 0 h) _ = _
  rw [this]
  rfl
theorem bt_UF {p : PD} (v : PV p) (s : SD) (x k : Nat) : bt (UF p s x) k = (decide (k < p.m) && (decide (p.co k = x) && us p s k)) := bt_ms _ _ (by have := v.m14; omega) k
theorem UF0 {p : PD} (v : PV p) (s : SD) (x : Nat) : UF p s x = 0 ↔ ∀ k, k < p.m → p.co k = x → us p s k = false := by
  have hm := v.m14
  rw [bt_eq0]
  constructor
  · intro h k hk e
    have := h k (by omega)
    rw [bt_UF v, decide_eq_true hk, decide_eq_true e] at this
    simpa using this
  · intro h k _
    rw [bt_UF v]
    by_cases hk : k < p.m
    · by_cases e : p.co k = x
      · rw [h k hk e]; simp
      · simp [e]
    · simp [hk]
/-- at a loss -/
def atL (p : PD) (s : SD) (x : Nat) : Bool := decide (p.ki x = 2) || (!decide (p.ki x = 1) && decide (UF p s x = 0))
def LSt (p : PD) (s : SD) : Int32 := ms (atL p s) p.n
theorem m_isAtLoss {h : AH} {p : PD} {s : SD} (c : MC h p s) {x : Nat} (hx : x < p.n) : f_X12_isAtLoss (nI x) h = some (if atL p s x = true then 1 else 0, h) := by
  have hn := c.1.n10
  have hk := c.1.ki5 hx
  have hb : inb (nI x) 10 = true := inb_nI (by omega) (by omega)
  unfold f_X12_isAtLoss atL
  rw [if_pos hb, nI_cl (by omega), c.ki hx, if_pos hb, m_usableFor c (by omega), bd_some]
  have e2 : (nI (p.ki x) = 2) ↔ p.ki x = 2 := nI_eq (b := 2) (by omega) (by omega)
  have e1 : (nI (p.ki x) = 1) ↔ p.ki x = 1 := nI_eq (b := 1) (by omega) (by omega)
  by_cases a : p.ki x = 2
  · rw [if_pos (e2.mpr a), decide_eq_true a]; rfl
  · rw [if_neg (fun z => a (e2.mp z)), decide_eq_false a]
    by_cases b : p.ki x = 1
    · rw [if_pos (e1.mpr b), decide_eq_true b]; rfl
    · rw [if_neg (fun z => b (e1.mp z)), decide_eq_false b]
      by_cases d : UF p s x = 0
      · rw [if_pos d, decide_eq_true d]; rfl
      · rw [if_neg d, decide_eq_false d]; rfl
theorem m_lossSet {h : AH} {p : PD} {s : SD} (c : MC h p s) : f_X12_lossSet h = some (LSt p s, h) := by
  have hn := c.1.n10
  unfold f_X12_lossSet
  have := lp0 (fun F j => l_X12_lossSet_4 F (ms (atL p s) j) (nI j) h) p.n (some (LSt p s, h)) (by
    intro F j hj
    show b_X12_lossSet_4 (l_X12_lossSet_4 F) _ (nI j) h = _
    unfold b_X12_lossSet_4
    rw [c.n, if_neg (nI_ge hj (by omega)), m_isAtLoss c hj, bd_some, if10, nI_1]
    by_cases e : atL p s j = true
    · rw [if_pos e, ms_s e]
    · rw [if_neg e, ms_n e]) (by
    intro F
    show b_X12_lossSet_4 (l_X12_lossSet_4 F) _ (nI p.n) h = _
    unfold b_X12_lossSet_4
    rw [c.n, if_pos (Int32.le_refl _)]
    rfl) (by omega)
  rw [nI_0] at this
  show bd (l_X12_lossSet_4 FU (ms (atL p s) 0) 0 h) _ = _
  rw [this]
  rfl
/-- the bits struck out by the first j usable reasons -/
def lb (p : PD) (s : SD) (a : Int32) : Nat → Int32
  | 0 => a
  | j + 1 => lb p s a j &&& (if us p s j = true then ((1 : Int32) <<< (nI (p.co j) &&& 31)) ^^^ (-1) else -1)
theorem bt_lb {p : PD} (v : PV p) (s : SD) (a : Int32) : ∀ j, j ≤ p.m → ∀ i, i < 32 → (bt (lb p s a j) i = true ↔ bt a i = true ∧ ∀ k, k < j → p.co k = i → us p s k = false)
  | 0, _, i, _ => ⟨fun h => ⟨h, fun k hk => by omega⟩, fun h => h.1⟩
  | j + 1, hj, i, hi => by
    have h1 := v.co10 (show j < p.m by omega)
    show bt (lb p s a j &&& _) i = true ↔ _
    rw [bt_and, Bool.and_eq_true, bt_lb v s a j (by omega) i hi]
    have hq : bt (if us p s j = true then ((1 : Int32) <<< (nI (p.co j) &&& 31)) ^^^ (-1) else -1) i = true ↔ (p.co j = i → us p s j = false) := by
      by_cases e : us p s j = true
      · rw [if_pos e, bt_not _ hi, bt_sl _ (by omega) _ hi, e]
        by_cases d : p.co j = i
        · simp [d]
        · simp [d]; omega
      · rw [if_neg e, bt_m1 i hi]
        simp only [Bool.not_eq_true] at e
        simp [e]
    rw [hq]
    constructor
    · rintro ⟨⟨a1, a2⟩, a3⟩
      refine ⟨a1, fun k hk => ?_⟩
      by_cases e : k = j
      · subst e; exact a3
      · exact a2 k (by omega)
    · rintro ⟨a1, a2⟩
      exact ⟨⟨a1, fun k hk => a2 k (by omega)⟩, a2 j (by omega)⟩
theorem x_lossloop {h : AH} {p : PD} {s : SD} (c : XC h p s) (a : Int32) : l_X0_lossBits_13 FU a 0 h = some (lb p s a p.m, h) := by
  have hm := c.1.m14
  have := lp0 (fun F j => l_X0_lossBits_13 F (lb p s a j) (nI j) h) p.m (some (lb p s a p.m, h)) (by
    intro F j hj
    show b_X0_lossBits_13 (l_X0_lossBits_13 F) _ (nI j) h = _
    unfold b_X0_lossBits_13
    rw [c.m, if_neg (nI_ge hj (by omega)), x_isUsable c hj, bd_some, if10, if_pos (inb_nI (by omega) (by omega)), nI_cl (by omega), c.co hj, nI_1]
    show _ = l_X0_lossBits_13 F (lb p s a j &&& (if us p s j = true then ((1 : Int32) <<< (nI (p.co j) &&& 31)) ^^^ (-1) else -1)) (nI (j + 1)) h
    by_cases e : us p s j = true
    · rw [if_pos e, if_pos e]
    · rw [if_neg e, if_neg e]) (by
    intro F
    show b_X0_lossBits_13 (l_X0_lossBits_13 F) _ (nI p.m) h = _
    unfold b_X0_lossBits_13
    rw [c.m, if_pos (Int32.le_refl _)]) (by omega)
  rw [nI_0] at this
  exact this
theorem sub_ms (P : Nat → Bool) (n : Nat) (hn : n ≤ 32) : sub (ms P n) n := by
  intro i hi
  rw [bt_ms P n hn] at hi
  simp at hi
  exact hi.1
theorem btEN {p : PD} (v : PV p) (i : Nat) : bt (EN p) i = (decide (i < p.n) && (decide (p.ki i = 1) || decide (p.ki i = 2))) := by
  unfold EN
  rw [bt_or, bt_KB v, bt_KB v, ← Bool.and_or_distrib_left]
theorem x_lossBits {h : AH} {p : PD} {s : SD} (c : XC h p s) : f_X0_lossBits h = some (LSt p s, h) := by
  have hn := c.1.n10
  unfold f_X0_lossBits
  rw [x_all c, bd_some, x_bits1 c, bd_some, x_lossloop c, bd_some]
  unfold c_X0_lossBits_38
  rw [x_bits2 c, bd_some]
  congr 2
  apply bt_ext
  intro i hi
  rw [LSt, bt_ms _ _ (by omega), bt_or, bt_KB c.1, Bool.eq_iff_iff, Bool.or_eq_true, bt_lb c.1 s _ _ (Nat.le_refl _) i hi, bt_and, bt_not _ hi, bt_AL (by omega) hi, btEN c.1]
  unfold atL
  rw [← UF0 c.1]
  by_cases a : i < p.n
  · simp only [a, decide_true, Bool.true_and]
    by_cases b : p.ki i = 2
    · simp [b]
    · by_cases d : p.ki i = 1
      · simp [d]
      · simp [b, d]
  · simp [a]
theorem m_isEndKind {k : Nat} (hk : k ≤ 5) (h : AH) : f_X12_isEndKind (nI k) h = some (if decide (k = 1) || decide (k = 2) then 1 else 0, h) := by
  have : ∀ k, k < 6 → ∀ h, f_X12_isEndKind (nI k) h = some (if decide (k = 1) || decide (k = 2) then 1 else 0, h) := by
    intro k hk h
    match k, hk with
    | 0, _ => rfl
    | 1, _ => rfl
    | 2, _ => rfl
    | 3, _ => rfl
    | 4, _ => rfl
    | 5, _ => rfl
  exact this k (by omega) h
def isE (p : PD) (x : Nat) : Bool := decide (p.ki x = 1) || decide (p.ki x = 2)
theorem m_isEnd {h : AH} {p : PD} {s : SD} (c : MC h p s) {x : Nat} (hx : x < p.n) : f_X12_isEnd (nI x) h = some (if isE p x = true then 1 else 0, h) := by
  have hn := c.1.n10
  unfold f_X12_isEnd
  rw [if_pos (inb_nI (by omega) (by omega)), nI_cl (by omega), c.ki hx, m_isEndKind (c.1.ki5 hx), bd_some, znc]
  rfl
def isO (p : PD) (s : SD) (x : Nat) : Bool := isE p x || atL p s x
theorem m_isOver {h : AH} {p : PD} {s : SD} (c : MC h p s) {x : Nat} (hx : x < p.n) : f_X12_isOver (nI x) h = some (if isO p s x = true then 1 else 0, h) := by
  unfold f_X12_isOver isO
  rw [m_isEnd c hx, bd_some, if10, m_isAtLoss c hx, bd_some, if10]
  cases isE p x
  · cases atL p s x <;> rfl
  · rfl
theorem x_isOver {h : AH} {p : PD} {s : SD} (c : XC h p s) {x : Nat} (hx : x < p.n) : f_X0_isOver (nI x) h = some (if isO p s x = true then 1 else 0, h) := by
  have hn := c.1.n10
  unfold f_X0_isOver isO isE
  rw [x_lossBits c, bd_some, x_bits1 c, bd_some, x_has _ (by omega), bd_some, znc, bt_or, LSt, bt_ms _ _ (by omega), btEN c.1, decide_eq_true hx, Bool.true_and, Bool.true_and, Bool.or_comm]
theorem m_isAct {h : AH} {p : PD} {s : SD} (c : MC h p s) {x : Nat} (hx : x < p.n) : f_X12_isAct (nI x) h = some (if (decide (p.ki x = 3) || decide (p.ki x = 5)) = true then 1 else 0, h) := by
  have hn := c.1.n10
  have hk := c.1.ki5 hx
  have hb : inb (nI x) 10 = true := inb_nI (by omega) (by omega)
  unfold f_X12_isAct
  rw [if_pos hb, if_pos hb, nI_cl (by omega), c.ki hx]
  have e2 : (nI (p.ki x) = 3) ↔ p.ki x = 3 := nI_eq (b := 3) (by omega) (by omega)
  have e1 : (nI (p.ki x) = 5) ↔ p.ki x = 5 := nI_eq (b := 5) (by omega) (by omega)
  by_cases a : p.ki x = 3
  · rw [if_pos (e2.mpr a), decide_eq_true a]; rfl
  · rw [if_neg (fun z => a (e2.mp z)), decide_eq_false a]
    by_cases b : p.ki x = 5
    · rw [if_pos (e1.mpr b), decide_eq_true b]; rfl
    · rw [if_neg (fun z => b (e1.mp z)), decide_eq_false b]; rfl
theorem m_actSet {h : AH} {p : PD} {s : SD} (c : MC h p s) : f_X12_actSet h = some (ACt p, h) := by
  have hn := c.1.n10
  unfold f_X12_actSet
  have := lp0 (fun F j => l_X12_actSet_4 F (ms (fun x => decide (p.ki x = 3) || decide (p.ki x = 5)) j) (nI j) h) p.n (some (ms (fun x => decide (p.ki x = 3) || decide (p.ki x = 5)) p.n, h)) (by
    intro F j hj
    show b_X12_actSet_4 (l_X12_actSet_4 F) _ (nI j) h = _
    unfold b_X12_actSet_4
    rw [c.n, if_neg (nI_ge hj (by omega)), m_isAct c hj, bd_some, if10, nI_1]
    by_cases e : (decide (p.ki j = 3) || decide (p.ki j = 5)) = true
    · rw [if_pos e, ms_s (P := fun x => decide (p.ki x = 3) || decide (p.ki x = 5)) e]
    · rw [if_neg e, ms_n (P := fun x => decide (p.ki x = 3) || decide (p.ki x = 5)) e]) (by
    intro F
    show b_X12_actSet_4 (l_X12_actSet_4 F) _ (nI p.n) h = _
    unfold b_X12_actSet_4
    rw [c.n, if_pos (Int32.le_refl _)]) (by omega)
  rw [nI_0] at this
  show bd (l_X12_actSet_4 FU (ms (fun x => decide (p.ki x = 3) || decide (p.ki x = 5)) 0) 0 h) _ = _
  rw [this]
  show some (_, h) = _
  congr 2
  apply bt_ext
  intro i hi
  rw [ACt, bt_or, bt_KB c.1, bt_KB c.1, bt_ms _ _ (by omega), ← Bool.and_or_distrib_left]
