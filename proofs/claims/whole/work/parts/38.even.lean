/-! ===== the evening read ===== -/
/-- the claims of a trail, as bits -/
def tb (tr : Nat → Nat) : Nat → Int32
  | 0 => 0
  | j + 1 => tb tr j ||| ((1 : Int32) <<< (nI (tr j) &&& 31))
/-- what is barred by a trail -/
def bq (lw : Nat) (tr : Nat → Nat) (j : Nat) : Int32 := if lw = 1 then tb tr j else 0
theorem nI_sub1 {n : Nat} (h : 0 < n) : nI n - 1 = nI (n - 1) := by
  have : nI n = nI (n - 1) + 1 := by rw [nI_1]; congr 1; omega
  rw [this, Int32.add_sub_cancel]
theorem nI_le0 {n : Nat} (h : n < 100000) : (nI n ≤ 0) ↔ n = 0 := by
  rw [i_le, nI_toInt (by omega)]
  show (n : Int) ≤ 0 ↔ _
  omega
theorem nI_eq0 {n : Nat} (h : n < 100000) : (nI n = 0) ↔ n = 0 := nI_eq (b := 0) (by omega) (by omega)
theorem SV.t40 {p : PD} {s : SD} (v : SV p s) : s.ts ≤ 40 := v.2.2.2.1
theorem SV.trn {p : PD} {s : SD} (v : SV p s) {i : Nat} (h : i < s.ts) : s.tr i < p.n := v.2.2.2.2.2 i h
theorem x_hasEv {h : AH} {p : PD} {s : SD} (c : XC h p s) : f_X7_hasEvening 3 h = some (if ¬ s.ts = 0 then 1 else 0, h) := by
  have := c.2.1.t40
  unfold f_X7_hasEvening
  rw [c.ts]
  by_cases e : s.ts = 0
  · rw [if_pos ((nI_le0 (by omega)).mpr e), if_neg (by omega)]; rfl
  · rw [if_neg (fun z => e ((nI_le0 (by omega)).mp z)), if_pos e]; rfl
theorem x_answers {h : AH} {p : PD} {s : SD} (c : XC h p s) : f_X7_answers 3 h = some (nI (s.ts - 1), h) := by
  have := c.2.1.t40
  unfold f_X7_answers
  rw [c.ts]
  by_cases e : s.ts = 0
  · rw [if_pos ((nI_le0 (by omega)).mpr e), e]; rfl
  · rw [if_neg (fun z => e ((nI_le0 (by omega)).mp z)), nI_sub1 (by omega)]
theorem m_answerMany {h : AH} {p : PD} {s : SD} (c : MC h p s) : f_X12_answerMany h = some (nI (s.ts - 1), h) := by
  have := c.2.1.t40
  unfold f_X12_answerMany
  rw [c.ts]
  by_cases e : s.ts = 0
  · rw [if_pos ((nI_eq0 (by omega)).mpr e), e]; rfl
  · rw [if_neg (fun z => e ((nI_eq0 (by omega)).mp z)), nI_sub1 (by omega)]
theorem x_place {h : AH} {p : PD} {s : SD} (c : XC h p s) (e : ¬ s.ts = 0) : f_X7_place 3 h = some (nI (s.tr (s.ts - 1)), h) := by
  have := c.2.1.t40
  unfold f_X7_place
  rw [c.ts, if_neg (fun z => e ((nI_le0 (by omega)).mp z)), if_neg (by rw [nI_ltI (by omega) (by omega)]; omega), nI_sub1 (by omega), if_pos (inb_nI (by omega) (by omega)), nI_cl (by omega), c.tr (by omega)]
theorem x_barred {h : AH} {p : PD} {s : SD} (c : XC h p s) : f_X7_barredBits 3 h = some (bq s.lw s.tr s.ts, h) := by
  have ht := c.2.1.t40
  have hl := c.2.1.2.2.1
  unfold f_X7_barredBits
  have := lp0 (fun F j => l_X7_barredBits_4 F 3 (tb s.tr j) (nI j) h) s.ts (some (tb s.tr s.ts, h)) (by
    intro F j hj
    show b_X7_barredBits_4 (l_X7_barredBits_4 F) 3 _ (nI j) h = _
    unfold b_X7_barredBits_4
    rw [c.ts, if_neg (nI_ge hj (by omega)), if_pos (inb_nI (by omega) (by omega)), nI_cl (by omega), c.tr hj, nI_1]
    rfl) (by
    intro F
    show b_X7_barredBits_4 (l_X7_barredBits_4 F) 3 _ (nI s.ts) h = _
    unfold b_X7_barredBits_4
    rw [c.ts, if_pos (Int32.le_refl _)]) (by omega)
  rw [nI_0] at this
  show bd (l_X7_barredBits_4 FU 3 (tb s.tr 0) 0 h) _ = _
  rw [this, bd_some]
  unfold c_X7_barredBits_19 bq
  rw [c.lw]
  have e1 : (nI s.lw = 1) ↔ s.lw = 1 := nI_eq (b := 1) (by omega) (by omega)
  by_cases e : s.lw = 1
  · rw [if_pos (e1.mpr e), if_pos e]
  · rw [if_neg (fun z => e (e1.mp z)), if_neg e]
/-- reasons that may be answered at x, where b is barred -/
def opR (p : PD) (s : SD) (x : Nat) (b : Int32) : Int32 := ms (fun k => decide (p.co k = x) && (us p s k && !decide (p.pa k &&& (b ^^^ (-1)) = 0))) p.m
theorem bt_opR {p : PD} (v : PV p) (s : SD) (x : Nat) (b : Int32) (k : Nat) : bt (opR p s x b) k = (decide (k < p.m) && (decide (p.co k = x) && (us p s k && !decide (p.pa k &&& (b ^^^ (-1)) = 0)))) := bt_ms _ _ (by have := v.m14; omega) k
theorem x_openR {h : AH} {p : PD} {s : SD} (c : XC h p s) {x : Nat} (hx : x < 32) (b : Int32) : f_X0_openReasons (nI x) b h = some (opR p s x b, h) := by
  have hm := c.1.m14
  unfold f_X0_openReasons
  have := lp0 (fun F j => l_X0_openReasons_4 F (nI x) b (ms (fun k => decide (p.co k = x) && (us p s k && !decide (p.pa k &&& (b ^^^ (-1)) = 0))) j) (nI j) h) p.m (some (opR p s x b, h)) (by
    intro F j hj
    show b_X0_openReasons_4 (l_X0_openReasons_4 F) (nI x) b _ (nI j) h = _
    have h1 := c.1.co10 hj
    have hb : inb (nI j) 14 = true := inb_nI (by omega) (by omega)
    unfold b_X0_openReasons_4
    rw [c.m, if_neg (nI_ge hj (by omega)), if_pos hb, nI_cl (by omega), c.co hj, nI_1, x_isUsable c hj, bd_some, if10, if_pos hb, c.pa hj]
    by_cases e : p.co j = x
    · rw [if_pos (by rw [e])]
      by_cases f : us p s j = true
      · rw [if_pos f]
        by_cases g : p.pa j &&& (b ^^^ (-1)) = 0
        · rw [if_pos g, ms_n (by simp only [decide_eq_true g, Bool.not_true, Bool.and_false]; exact Bool.false_ne_true)]
        · rw [if_neg g, ms_s (by simp only [decide_eq_true e, f, decide_eq_false g]; rfl)]
      · rw [if_neg f, ms_n (by simp [f])]
    · rw [if_neg (by rw [nI_eq (by omega) (by omega)]; exact e), ms_n (by simp [e])]) (by
    intro F
    show b_X0_openReasons_4 (l_X0_openReasons_4 F) (nI x) b _ (nI p.m) h = _
    unfold b_X0_openReasons_4
    rw [c.m, if_pos (Int32.le_refl _)]
    rfl) (by omega)
  rw [nI_0] at this
  show bd (l_X0_openReasons_4 FU (nI x) b (ms (fun k => decide (p.co k = x) && (us p s k && !decide (p.pa k &&& (b ^^^ (-1)) = 0))) 0) 0 h) _ = _
  rw [this]
  rfl
theorem i_and_not_or (a b c : Int32) : a &&& ((b ||| c) ^^^ (-1)) = (a &&& (b ^^^ (-1))) &&& (c ^^^ (-1)) := by
  apply bt_ext
  intro i hi
  rw [bt_and, bt_not _ hi, bt_or, bt_and, bt_and, bt_not _ hi, bt_not _ hi]
  cases bt a i <;> cases bt b i <;> cases bt c i <;> rfl
theorem i_and_not0 (a : Int32) : a &&& ((0 : Int32) ^^^ (-1)) = a := by
  apply bt_ext
  intro i hi
  rw [bt_and, bt_not _ hi, bt_0]
  simp
/-- a trail lies in one of the reference's arrays -/
def TA (h : AH) (q : Nat) (p : PD) (tr : Nat → Nat) (j : Nat) : Prop := ∀ i, i < j → h.1 q 0 i = nI (tr i) ∧ tr i < p.n
theorem MC.ta {h : AH} {p : PD} {s : SD} (c : MC h p s) : TA h 49 p s.tr s.ts := fun _ hi => ⟨c.tr hi, c.2.1.trn hi⟩
theorem m_mayAskA {h : AH} {p : PD} {s : SD} (c : MC h p s) {tr : Nat → Nat} {j : Nat} (t : TA h 49 p tr j) (hj : j ≤ 41) {k : Nat} (hk : k < p.m) : f_X12_mayAsk_m_askedOf (nI k) (nI j) h = some (p.pa k &&& (bq s.lw tr j ^^^ (-1)), h) := by
  have hm := c.1.m14
  have hl := c.2.1.2.2.1
  unfold f_X12_mayAsk_m_askedOf bq
  rw [if_pos (inb_nI (by omega) (by omega)), nI_cl (by omega), c.pa hk]
  have e1 : (nI s.lw = 1) ↔ s.lw = 1 := nI_eq (b := 1) (by omega) (by omega)
  by_cases e : s.lw = 1
  · have := lp0 (fun F i => l_X12_mayAsk_m_askedOf_7 F (nI j) (p.pa k &&& (tb tr i ^^^ (-1))) (nI i) h) j (some (p.pa k &&& (tb tr j ^^^ (-1)), h)) (by
      intro F i hi
      show b_X12_mayAsk_m_askedOf_7 (l_X12_mayAsk_m_askedOf_7 F) (nI j) _ (nI i) h = _
      unfold b_X12_mayAsk_m_askedOf_7
      rw [if_neg (nI_ge hi (by omega)), c.lw, if_pos (e1.mpr e), if_pos (inb_nI (by omega) (by omega)), nI_cl (by omega), (t i hi).1, nI_1, ← i_and_not_or]
      rfl) (by
      intro F
      show b_X12_mayAsk_m_askedOf_7 (l_X12_mayAsk_m_askedOf_7 F) (nI j) _ (nI j) h = _
      unfold b_X12_mayAsk_m_askedOf_7
      rw [if_pos (Int32.le_refl _)]) (by omega)
    have e0 : p.pa k &&& (tb tr 0 ^^^ (-1)) = p.pa k := i_and_not0 _
    rw [nI_0, e0] at this
    rw [this, if_pos e]
    rfl
  · rw [if_neg e, i_and_not0]
    show bd (b_X12_mayAsk_m_askedOf_7 (l_X12_mayAsk_m_askedOf_7 4999) (nI j) (p.pa k) 0 h) _ = _
    unfold b_X12_mayAsk_m_askedOf_7
    rw [c.lw, if_neg (fun z => e (e1.mp z))]
    by_cases z : nI j ≤ 0
    · rw [if_pos z]; rfl
    · rw [if_neg z]; rfl
/-- at a claim that is over nothing may be answered -/
theorem opR_over {p : PD} (v : PV p) {s : SD} {x : Nat} (o : isO p s x = true) (b : Int32) : opR p s x b = 0 := by
  rw [bt_eq0]
  intro k _
  rw [bt_opR v]
  by_cases hk : k < p.m
  · by_cases e : p.co k = x
    · unfold isO isE atL at o
      have h1 := (v.2.2.2.1 k hk).2.1
      have h2 := (v.2.2.2.1 k hk).2.2.1
      rw [e] at h1 h2
      simp only [h1, h2, decide_false, Bool.false_or, Bool.not_false, Bool.true_and, decide_eq_true_eq] at o
      rw [(UF0 v s x).mp o k hk e]
      simp
    · simp [e]
  · simp [hk]
theorem m_mayAnswerA {h : AH} {p : PD} {s : SD} (c : MC h p s) {tr : Nat → Nat} {j : Nat} (t : TA h 49 p tr j) (h0 : 0 < j) (hj : j ≤ 41) : f_X12_mayAnswer_m_askedOf (nI j) h = some (opR p s (tr (j - 1)) (bq s.lw tr j), h) := by
  have hm := c.1.m14
  have hn := c.1.n10
  have hx := (t (j - 1) (by omega)).2
  unfold f_X12_mayAnswer_m_askedOf
  rw [nI_sub1 h0, if_pos (inb_nI (by omega) (by omega)), nI_cl (by omega), (t (j - 1) (by omega)).1]
  by_cases o : isO p s (tr (j - 1)) = true
  · rw [opR_over c.1 o]
    show bd (b_X12_mayAnswer_m_askedOf_10 (l_X12_mayAnswer_m_askedOf_10 4999) (nI j) (nI (tr (j - 1))) 0 0 h) _ = _
    unfold b_X12_mayAnswer_m_askedOf_10
    rw [m_isOver c hx, bd_some, if10, if_pos o]
    split <;> rfl
  · have := lp0 (fun F i => l_X12_mayAnswer_m_askedOf_10 F (nI j) (nI (tr (j - 1))) (ms (fun k => decide (p.co k = tr (j - 1)) && (us p s k && !decide (p.pa k &&& (bq s.lw tr j ^^^ (-1)) = 0))) i) (nI i) h) p.m (some (opR p s (tr (j - 1)) (bq s.lw tr j), h)) (by
      intro F i hi
      show b_X12_mayAnswer_m_askedOf_10 (l_X12_mayAnswer_m_askedOf_10 F) (nI j) (nI (tr (j - 1))) _ (nI i) h = _
      unfold b_X12_mayAnswer_m_askedOf_10
      rw [c.m, if_neg (nI_ge hi (by omega)), m_isOver c hx, bd_some, if10, if_neg o, m_usableFor c (by omega), bd_some, m_has _ (by omega), bd_some, if10, m_mayAskA c t hj hi, bd_some, nI_1, bt_UF c.1, decide_eq_true hi, Bool.true_and]
      by_cases e : (decide (p.co i = tr (j - 1)) && us p s i) = true
      · rw [if_pos e]
        rw [Bool.and_eq_true, decide_eq_true_eq] at e
        by_cases g : p.pa i &&& (bq s.lw tr j ^^^ (-1)) = 0
        · rw [if_pos g, ms_n (by simp only [decide_eq_true g, Bool.not_true, Bool.and_false]; exact Bool.false_ne_true)]
        · rw [if_neg g, ms_s (by simp only [decide_eq_true e.1, e.2, decide_eq_false g]; rfl)]
      · rw [if_neg e, ms_n]
        intro z
        apply e
        rw [Bool.and_eq_true] at z ⊢
        rw [Bool.and_eq_true] at z
        exact ⟨z.1, z.2.1⟩) (by
      intro F
      show b_X12_mayAnswer_m_askedOf_10 (l_X12_mayAnswer_m_askedOf_10 F) (nI j) (nI (tr (j - 1))) _ (nI p.m) h = _
      unfold b_X12_mayAnswer_m_askedOf_10
      rw [c.m, if_pos (Int32.le_refl _)]
      rfl) (by omega)
    rw [nI_0] at this
    show bd (l_X12_mayAnswer_m_askedOf_10 FU (nI j) (nI (tr (j - 1))) (ms (fun k => decide (p.co k = tr (j - 1)) && (us p s k && !decide (p.pa k &&& (bq s.lw tr j ^^^ (-1)) = 0))) 0) 0 h) _ = _
    rw [this]
    rfl
/-- whether k can be answered and y asked next -/
def cgo (p : PD) (s : SD) (x k y : Nat) (b : Int32) : Bool := bt (opR p s x b) k && bt (p.pa k &&& (b ^^^ (-1))) y
theorem x_canGo {h : AH} {p : PD} {s : SD} (c : XC h p s) {x k y : Nat} (hx : x < 32) (hk : k < p.m) (hy : y < 32) (b : Int32) : f_X0_canGo (nI x) (nI k) (nI y) b h = some (if cgo p s x k y b = true then 1 else 0, h) := by
  have hm := c.1.m14
  unfold f_X0_canGo cgo
  rw [x_openR c hx, bd_some, x_has _ (by omega), bd_some, if10, if_pos (inb_nI (by omega) (by omega)), nI_cl (by omega), c.pa hk, x_has _ hy, bd_some, if10]
  cases bt (opR p s x b) k
  · rfl
  · cases bt (p.pa k &&& (b ^^^ (-1))) y <;> rfl
theorem m_canAnswerA {h : AH} {p : PD} {s : SD} (c : MC h p s) {tr : Nat → Nat} {j : Nat} (t : TA h 49 p tr j) (h0 : 0 < j) (hj : j ≤ 41) {k y : Nat} (hk : k < p.m) (hy : y < 32) : f_X12_canAnswer_m_askedOf (nI j) (nI k) (nI y) h = some (if cgo p s (tr (j - 1)) k y (bq s.lw tr j) = true then 1 else 0, h) := by
  have hm := c.1.m14
  unfold f_X12_canAnswer_m_askedOf cgo
  rw [m_mayAnswerA c t h0 hj, bd_some, m_has _ (by omega), bd_some, if10, m_mayAskA c t hj hk, bd_some, m_has _ hy, bd_some, if10]
  cases bt (opR p s (tr (j - 1)) (bq s.lw tr j)) k
  · rfl
  · cases bt (p.pa k &&& (bq s.lw tr j ^^^ (-1))) y <;> rfl
/-- how it is at x, where b is barred -/
def wo (p : PD) (s : SD) (x : Nat) (b : Int32) : Int32 := if atL p s x = true then 2 else if isE p x = true then 1 else if opR p s x b = 0 then 3 else 0
theorem x_wayOut {h : AH} {p : PD} {s : SD} (c : XC h p s) {x : Nat} (hx : x < p.n) (b : Int32) : f_X0_wayOut (nI x) b h = some (wo p s x b, h) := by
  have hn := c.1.n10
  unfold f_X0_wayOut wo
  rw [x_lossBits c, bd_some, x_has _ (by omega), bd_some, if10, x_bits1 c, bd_some, x_has _ (by omega), bd_some, if10, x_openR c (by omega), bd_some, LSt, bt_ms _ _ (by omega), decide_eq_true hx, Bool.true_and, btEN c.1, decide_eq_true hx, Bool.true_and]
  show (if atL p s x = true then some (2, h) else if isE p x = true then some (1, h) else _) = _
  by_cases a : atL p s x = true
  · rw [if_pos a, if_pos a]
  · rw [if_neg a, if_neg a]
    by_cases e : isE p x = true
    · rw [if_pos e, if_pos e]
    · rw [if_neg e, if_neg e, if_some]
theorem m_endOfA {h : AH} {p : PD} {s : SD} (c : MC h p s) {tr : Nat → Nat} {j : Nat} (t : TA h 49 p tr j) (h0 : 0 < j) (hj : j ≤ 41) : f_X12_endOf_m_askedOf (nI j) h = some (wo p s (tr (j - 1)) (bq s.lw tr j), h) := by
  have hn := c.1.n10
  have hx := (t (j - 1) (by omega)).2
  have hk := c.1.ki5 hx
  unfold f_X12_endOf_m_askedOf wo
  rw [nI_sub1 h0, if_pos (inb_nI (by omega) (by omega)), nI_cl (by omega), (t (j - 1) (by omega)).1, if_pos (inb_nI (by omega) (by omega)), nI_cl (by omega), c.ki hx, m_isAtLoss c hx, bd_some, if10, m_mayAnswerA c t h0 hj, bd_some]
  have e1 : (nI (p.ki (tr (j - 1))) = 1) ↔ p.ki (tr (j - 1)) = 1 := nI_eq (b := 1) (by omega) (by omega)
  by_cases e : p.ki (tr (j - 1)) = 1
  · rw [if_pos (e1.mpr e), if_neg, if_pos]
    · simp [isE, e]
    · simp [atL, e]
  · rw [if_neg (fun z => e (e1.mp z))]
    by_cases a : atL p s (tr (j - 1)) = true
    · rw [if_pos a, if_pos a]
    · rw [if_neg a, if_neg a, if_some]
      rw [if_neg (c := isE p (tr (j - 1)) = true)]
      intro z
      apply a
      simp only [isE, e, decide_false, Bool.false_or, decide_eq_true_eq] at z
      simp [atL, z]
theorem e_may : E0 Rel f_X11_may f_X12_may := by
  intro hx hm h
  show OR _ _
  obtain ⟨b, p, s, d⟩ := h
  have h : Rel hx hm := ⟨b, p, s, d⟩
  have h40 := d.2.1.t40
  have hn := d.1.n10
  unfold f_X11_may f_X12_may
  simp only [x_hasEv d.x, bd_some, if10, d.m.ts, nI_eq0 (show s.ts < 100000 by omega)]
  by_cases e : s.ts = 0
  · simp only [e, not_true, if_true, if_false]; exact OR.same h rfl rfl
  · have ht := d.2.1.trn (show s.ts - 1 < s.ts by omega)
    simp only [e, not_false_eq_true, if_true, if_false, x_place d.x e, x_barred d.x, x_openR d.x (show s.tr (s.ts - 1) < 32 by omega), bd_some, m_mayAnswerA d.m d.m.ta (by omega) (by omega)]
    exact OR.same h rfl rfl
theorem e_ends : E0 Rel f_X11_ends f_X12_ends := by
  intro hx hm h
  show OR _ _
  obtain ⟨b, p, s, d⟩ := h
  have h : Rel hx hm := ⟨b, p, s, d⟩
  have h40 := d.2.1.t40
  have hn := d.1.n10
  unfold f_X11_ends f_X12_ends
  simp only [x_hasEv d.x, bd_some, if10, d.m.ts, nI_eq0 (show s.ts < 100000 by omega)]
  by_cases e : s.ts = 0
  · simp only [e, not_true, if_true, if_false]; exact OR.same h rfl rfl
  · have ht := d.2.1.trn (show s.ts - 1 < s.ts by omega)
    simp only [e, not_false_eq_true, if_true, if_false, x_place d.x e, x_barred d.x, x_wayOut d.x ht, bd_some, m_endOfA d.m d.m.ta (by omega) (by omega)]
    exact OR.same h rfl rfl
theorem e_here : E0 Rel f_X11_here f_X12_here := by
  intro hx hm h
  show OR _ _
  obtain ⟨b, p, s, d⟩ := h
  have h : Rel hx hm := ⟨b, p, s, d⟩
  have h40 := d.2.1.t40
  have hn := d.1.n10
  unfold f_X11_here f_X12_here
  simp only [x_hasEv d.x, bd_some, if10, d.m.ts, nI_eq0 (show s.ts < 100000 by omega)]
  by_cases e : s.ts = 0
  · simp only [e, not_true, if_true, if_false]; exact OR.same h rfl rfl
  · simp only [e, not_false_eq_true, if_true, if_false, x_answers d.x, m_answerMany d.m, bd_some, x_place (d.x.fr (KX.told (nI (s.ts - 1)))) e, nI_sub1 (show 0 < s.ts by omega), d.m.ts, if_pos (inb_nI (show s.ts - 1 < 41 by omega) (by omega)), nI_cl (show s.ts - 1 < 100000 by omega), d.m.tr (show s.ts - 1 < s.ts by omega), m_tells]
    exact OR.told h _ rfl rfl
