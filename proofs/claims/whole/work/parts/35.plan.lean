/-! ===== the room read: kinds, reasons, usable, loss ===== -/
def XC (h : AH) (p : PD) (s : SD) : Prop := PV p ∧ SV p s ∧ XPl h 0 p ∧ XSt h 3 p s
def MC (h : AH) (p : PD) (s : SD) : Prop := PV p ∧ SV p s ∧ MPl h p ∧ MSt h p s
theorem RD.x {hx hm : AH} {p : PD} {s : SD} (a : RD hx hm p s) : XC hx p s := ⟨a.1, a.2.1, a.2.2.1, a.2.2.2.2.1⟩
theorem RD.m {hx hm : AH} {p : PD} {s : SD} (a : RD hx hm p s) : MC hm p s := ⟨a.1, a.2.1, a.2.2.2.1, a.2.2.2.2.2.1⟩
theorem XC.fr {h h2 : AH} {p : PD} {s : SD} (a : XC h p s) (k : KX h h2) : XC h2 p s := ⟨a.1, a.2.1, a.2.2.1.fr k, a.2.2.2.fr k⟩
theorem MC.fr {h h2 : AH} {p : PD} {s : SD} (a : MC h p s) (k : KM h h2) : MC h2 p s := ⟨a.1, a.2.1, a.2.2.1.fr k, a.2.2.2.fr k⟩
theorem XC.n {h : AH} {p : PD} {s : SD} (a : XC h p s) : h.1 12 0 5 = nI p.n := a.2.2.1.1
theorem XC.m {h : AH} {p : PD} {s : SD} (a : XC h p s) : h.1 12 0 6 = nI p.m := a.2.2.1.2.1
theorem XC.ki {h : AH} {p : PD} {s : SD} (a : XC h p s) {x : Nat} (hx : x < p.n) : h.1 13 0 x = nI (p.ki x) := a.2.2.1.2.2.1 x hx
theorem XC.co {h : AH} {p : PD} {s : SD} (a : XC h p s) {k : Nat} (hk : k < p.m) : h.1 15 0 k = nI (p.co k) := (a.2.2.1.2.2.2.2 k hk).1
theorem XC.pa {h : AH} {p : PD} {s : SD} (a : XC h p s) {k : Nat} (hk : k < p.m) : h.1 16 0 k = p.pa k := (a.2.2.1.2.2.2.2 k hk).2
theorem XC.ts {h : AH} {p : PD} {s : SD} (a : XC h p s) : h.1 8 3 2 = nI s.ts := a.2.2.2.1
theorem XC.aw {h : AH} {p : PD} {s : SD} (a : XC h p s) : h.1 8 3 3 = s.aw := a.2.2.2.2.1
theorem XC.kn {h : AH} {p : PD} {s : SD} (a : XC h p s) : h.1 8 3 4 = s.kn := a.2.2.2.2.2.1
theorem XC.lw {h : AH} {p : PD} {s : SD} (a : XC h p s) : h.1 8 3 5 = nI s.lw := a.2.2.2.2.2.2.1
theorem XC.su {h : AH} {p : PD} {s : SD} (a : XC h p s) {k : Nat} (hk : k < p.m) : h.1 9 3 k = nI (s.su k) := a.2.2.2.2.2.2.2.1 k hk
theorem XC.tr {h : AH} {p : PD} {s : SD} (a : XC h p s) {i : Nat} (hi : i < s.ts) : h.1 10 3 i = nI (s.tr i) := a.2.2.2.2.2.2.2.2 i hi
theorem MC.n {h : AH} {p : PD} {s : SD} (a : MC h p s) : h.1 34 0 10 = nI p.n := a.2.2.1.1
theorem MC.m {h : AH} {p : PD} {s : SD} (a : MC h p s) : h.1 34 0 11 = nI p.m := a.2.2.1.2.1
theorem MC.ki {h : AH} {p : PD} {s : SD} (a : MC h p s) {x : Nat} (hx : x < p.n) : h.1 41 0 x = nI (p.ki x) := a.2.2.1.2.2.1 x hx
theorem MC.co {h : AH} {p : PD} {s : SD} (a : MC h p s) {k : Nat} (hk : k < p.m) : h.1 42 0 k = nI (p.co k) := (a.2.2.1.2.2.2 k hk).1
theorem MC.pa {h : AH} {p : PD} {s : SD} (a : MC h p s) {k : Nat} (hk : k < p.m) : h.1 43 0 k = p.pa k := (a.2.2.1.2.2.2 k hk).2
theorem MC.ts {h : AH} {p : PD} {s : SD} (a : MC h p s) : h.1 34 0 27 = nI s.ts := a.2.2.2.1
theorem MC.aw {h : AH} {p : PD} {s : SD} (a : MC h p s) : h.1 34 0 16 = s.aw := a.2.2.2.2.1
theorem MC.kn {h : AH} {p : PD} {s : SD} (a : MC h p s) : h.1 34 0 17 = s.kn := a.2.2.2.2.2.1
theorem MC.lw {h : AH} {p : PD} {s : SD} (a : MC h p s) : h.1 34 0 18 = nI s.lw := a.2.2.2.2.2.2.1
theorem MC.su {h : AH} {p : PD} {s : SD} (a : MC h p s) {k : Nat} (hk : k < p.m) : h.1 44 0 k = nI (s.su k) := a.2.2.2.2.2.2.2.1 k hk
theorem MC.tr {h : AH} {p : PD} {s : SD} (a : MC h p s) {i : Nat} (hi : i < s.ts) : h.1 49 0 i = nI (s.tr i) := a.2.2.2.2.2.2.2.2 i hi
theorem PV.n10 {p : PD} (v : PV p) : p.n ≤ 10 := v.1
theorem PV.m14 {p : PD} (v : PV p) : p.m ≤ 14 := v.2.1
theorem PV.ki5 {p : PD} (v : PV p) {x : Nat} (h : x < p.n) : p.ki x ≤ 5 := v.2.2.1 x h
theorem PV.con {p : PD} (v : PV p) {k : Nat} (h : k < p.m) : p.co k < p.n := (v.2.2.2.1 k h).1
theorem PV.co10 {p : PD} (v : PV p) {k : Nat} (h : k < p.m) : p.co k < 10 := Nat.lt_of_lt_of_le (v.con h) v.n10
/-! claims, reasons -/
theorem ifr {α : Type} {n : Nat} (hn : n ≤ 100000) (x : Int32) (a b : α) : (if x < 0 then a else if nI n ≤ x then a else b) = if inb x n = true then b else a := by
  by_cases hb : inb x n = true
  · obtain ⟨c, d⟩ := inb_iff.mp hb
    rw [if_pos hb, if_neg (by rw [i_lt0]; omega), if_neg (by rw [i_le, nI_toInt (by omega)]; omega)]
  · rw [if_neg hb]
    have : ¬ (0 ≤ x.toInt ∧ x.toInt < (n : Int)) := fun z => hb (inb_iff.mpr z)
    by_cases h0 : x < 0
    · rw [if_pos h0]
    · rw [if_neg h0, if_pos (by rw [i_lt0] at h0; rw [i_le, nI_toInt (by omega)]; omega)]
theorem x_isClaim {h : AH} {p : PD} {s : SD} (c : XC h p s) (x : Int32) : f_X11_isClaim x h = some (if inb x p.n = true then 1 else 0, h) := by
  have := c.1.n10
  unfold f_X11_isClaim
  rw [c.n, ifr (by omega)]
  split <;> rfl
theorem x_isReason {h : AH} {p : PD} {s : SD} (c : XC h p s) (x : Int32) : f_X11_isReason x h = some (if inb x p.m = true then 1 else 0, h) := by
  have := c.1.m14
  unfold f_X11_isReason
  rw [c.m, ifr (by omega)]
  split <;> rfl
theorem m_isClaim {h : AH} {p : PD} {s : SD} (c : MC h p s) (x : Int32) : f_X12_isClaim x h = some (if inb x p.n = true then 1 else 0, h) := by
  have := c.1.n10
  unfold f_X12_isClaim
  rw [c.n, m_inn (by omega), bd_some, znc]
theorem m_isReason {h : AH} {p : PD} {s : SD} (c : MC h p s) (x : Int32) : f_X12_isReason x h = some (if inb x p.m = true then 1 else 0, h) := by
  have := c.1.m14
  unfold f_X12_isReason
  rw [c.m, m_inn (by omega), bd_some, znc]
/-! sets collected -/
def ms (P : Nat → Bool) : Nat → Int32
  | 0 => 0
  | j + 1 => ms P j ||| (if P j = true then (1 : Int32) <<< (nI j &&& 31) else 0)
theorem bt_ms (P : Nat → Bool) : ∀ j, j ≤ 32 → ∀ i, bt (ms P j) i = (decide (i < j) && P i)
  | 0, _, i => by rw [decide_eq_false (by omega)]; exact bt_0 i
  | j + 1, h, i => by
    show bt (ms P j ||| _) i = _
    rw [bt_or, bt_ms P j (by omega) i]
    by_cases hi : i < 32
    · by_cases hj : P j = true
      · rw [if_pos hj, bt_sl j (by omega) i hi]
        by_cases e : i = j
        · subst e; simp [hj]
        · rw [decide_eq_false e, Bool.or_false]
          by_cases f : i < j
          · rw [decide_eq_true f, decide_eq_true (by omega)]
          · rw [decide_eq_false f, decide_eq_false (by omega)]
      · rw [if_neg hj, bt_0, Bool.or_false]
        by_cases e : i = j
        · subst e; simp [hj]
        · by_cases f : i < j
          · rw [decide_eq_true f, decide_eq_true (by omega)]
          · rw [decide_eq_false f, decide_eq_false (by omega)]
    · rw [bt_ge (x := if P j = true then _ else _) (by omega), decide_eq_false (show ¬ i < j by omega), decide_eq_false (show ¬ i < j + 1 by omega)]
      rfl
theorem ms_s {P : Nat → Bool} {j : Nat} (h : P j = true) : ms P j ||| ((1 : Int32) <<< (nI j &&& 31)) = ms P (j + 1) := by
  show _ = ms P j ||| _
  rw [if_pos h]
theorem ms_n {P : Nat → Bool} {j : Nat} (h : ¬ P j = true) : ms P j ||| (0 : Int32) = ms P (j + 1) := by
  show _ = ms P j ||| _
  rw [if_neg h]
/-! kinds -/
def KB (p : PD) (j : Nat) : Int32 := ms (fun x => decide (p.ki x = j)) p.n
def AL (n : Nat) : Int32 := ((1 : Int32) <<< (nI n &&& 31)) - 1
theorem XC.kb {h : AH} {p : PD} {s : SD} (a : XC h p s) {j : Nat} (hj : j < 6) : h.1 14 0 j = KB p j := by
  have := a.1.n10
  apply bt_ext
  intro i hi
  rw [a.2.2.1.2.2.2.1 j hj i, KB, bt_ms _ _ (by omega), ← Bool.decide_and]
def EN (p : PD) : Int32 := KB p 1 ||| KB p 2
def ACt (p : PD) : Int32 := KB p 3 ||| KB p 5
theorem x_bits1 {h : AH} {p : PD} {s : SD} (c : XC h p s) : f_X6_bitsOf 0 1 h = some (EN p, h) := by
  unfold f_X6_bitsOf
  rw [if_pos rfl]
  show some (h.1 14 0 1 ||| h.1 14 0 2, h) = _
  rw [c.kb (by omega), c.kb (by omega)]
  rfl
theorem x_bits2 {h : AH} {p : PD} {s : SD} (c : XC h p s) : f_X6_bitsOf 0 2 h = some (KB p 2, h) := by
  unfold f_X6_bitsOf
  rw [if_neg (by decide), if_pos rfl]
  show some (h.1 14 0 2, h) = _
  rw [c.kb (by omega)]
theorem x_bits3 {h : AH} {p : PD} {s : SD} (c : XC h p s) : f_X6_bitsOf 0 3 h = some (ACt p, h) := by
  unfold f_X6_bitsOf
  rw [if_neg (by decide), if_neg (by decide), if_pos rfl]
  show some (h.1 14 0 3 ||| h.1 14 0 5, h) = _
  rw [c.kb (by omega), c.kb (by omega)]
  rfl
theorem x_bits4 {h : AH} {p : PD} {s : SD} (c : XC h p s) : f_X6_bitsOf 0 4 h = some (KB p 4, h) := by
  unfold f_X6_bitsOf
  rw [if_neg (by decide), if_neg (by decide), if_neg (by decide), if_pos rfl]
  show some (h.1 14 0 4, h) = _
  rw [c.kb (by omega)]
theorem x_bits5 {h : AH} {p : PD} {s : SD} (c : XC h p s) : f_X6_bitsOf 0 5 h = some (KB p 5, h) := by
  unfold f_X6_bitsOf
  rw [if_neg (by decide), if_neg (by decide), if_neg (by decide), if_neg (by decide), if_pos rfl]
  show some (h.1 14 0 5, h) = _
  rw [c.kb (by omega)]
theorem x_all {h : AH} {p : PD} {s : SD} (c : XC h p s) : f_X6_allBits 0 h = some (AL p.n, h) := by
  unfold f_X6_allBits
  rw [c.n]
  rfl
theorem m_allC {h : AH} {p : PD} {s : SD} (c : MC h p s) : f_X12_allClaims h = some (AL p.n, h) := by
  unfold f_X12_allClaims
  rw [c.n]
  rfl
theorem m_allR {h : AH} {p : PD} {s : SD} (c : MC h p s) : f_X12_allReasons h = some (AL p.m, h) := by
  unfold f_X12_allReasons
  rw [c.m]
  rfl
theorem bt_AL {n : Nat} (hn : n < 15) {i : Nat} (hi : i < 32) : bt (AL n) i = decide (i < n) := bt_all n hn i hi
theorem bt_KB {p : PD} (v : PV p) (j i : Nat) : bt (KB p j) i = (decide (i < p.n) && decide (p.ki i = j)) := bt_ms _ _ (by have := v.n10; omega) i
/-! reasons for, with -/
def RF (p : PD) (x : Nat) : Int32 := ms (fun k => decide (p.co k = x)) p.m
def RW (p : PD) (x : Nat) : Int32 := ms (fun k => bt (p.pa k) x) p.m
theorem x_reasonsFor {h : AH} {p : PD} {s : SD} (c : XC h p s) {x : Nat} (hx : x < 32) : f_X6_reasonsFor 0 (nI x) h = some (RF p x, h) := by
  have hm := c.1.m14
  unfold f_X6_reasonsFor
  have := lp0 (fun F j => l_X6_reasonsFor_4 F 0 (nI x) (ms (fun k => decide (p.co k = x)) j) (nI j) h) p.m (some (RF p x, h)) (by
    intro F j hj
    show b_X6_reasonsFor_4 (l_X6_reasonsFor_4 F) 0 (nI x) _ (nI j) h = _
    have h1 := c.1.co10 hj
    unfold b_X6_reasonsFor_4
    rw [c.m, if_neg (nI_ge hj (by omega)), if_pos (inb_nI (by omega) (by omega)), nI_cl (by omega), c.co hj, nI_1]
    by_cases e : p.co j = x
    · rw [if_pos (by rw [e]), ms_s (decide_eq_true e)]
    · rw [if_neg (by rw [nI_eq (by omega) (by omega)]; exact e), ms_n (by simpa using e)]) (by
    intro F
    show b_X6_reasonsFor_4 (l_X6_reasonsFor_4 F) 0 (nI x) _ (nI p.m) h = _
    unfold b_X6_reasonsFor_4
    rw [c.m, if_pos (Int32.le_refl _)]
    rfl) (by omega)
  rw [nI_0] at this
  show bd (l_X6_reasonsFor_4 FU 0 (nI x) (ms (fun k => decide (p.co k = x)) 0) 0 h) _ = _
  rw [this]
  rfl
theorem m_reasonsFor {h : AH} {p : PD} {s : SD} (c : MC h p s) {x : Nat} (hx : x < 32) : f_X12_reasonsFor (nI x) h = some (RF p x, h) := by
  have hm := c.1.m14
  unfold f_X12_reasonsFor
  have := lp0 (fun F j => l_X12_reasonsFor_4 F (nI x) (ms (fun k => decide (p.co k = x)) j) (nI j) h) p.m (some (RF p x, h)) (by
    intro F j hj
    show b_X12_reasonsFor_4 (l_X12_reasonsFor_4 F) (nI x) _ (nI j) h = _
    have h1 := c.1.co10 hj
    unfold b_X12_reasonsFor_4
    rw [c.m, if_neg (nI_ge hj (by omega)), if_pos (inb_nI (by omega) (by omega)), nI_cl (by omega), c.co hj, nI_1]
    by_cases e : p.co j = x
    · rw [if_pos (by rw [e]), ms_s (decide_eq_true e)]
    · rw [if_neg (by rw [nI_eq (by omega) (by omega)]; exact e), ms_n (by simpa using e)]) (by
    intro F
    show b_X12_reasonsFor_4 (l_X12_reasonsFor_4 F) (nI x) _ (nI p.m) h = _
    unfold b_X12_reasonsFor_4
    rw [c.m, if_pos (Int32.le_refl _)]
    rfl) (by omega)
  rw [nI_0] at this
  show bd (l_X12_reasonsFor_4 FU (nI x) (ms (fun k => decide (p.co k = x)) 0) 0 h) _ = _
  rw [this]
  rfl
theorem x_reasonsWith {h : AH} {p : PD} {s : SD} (c : XC h p s) {x : Nat} (hx : x < 32) : f_X6_reasonsWith 0 (nI x) h = some (RW p x, h) := by
  have hm := c.1.m14
  unfold f_X6_reasonsWith
  have := lp0 (fun F j => l_X6_reasonsWith_4 F 0 (nI x) (ms (fun k => bt (p.pa k) x) j) (nI j) h) p.m (some (RW p x, h)) (by
    intro F j hj
    show b_X6_reasonsWith_4 (l_X6_reasonsWith_4 F) 0 (nI x) _ (nI j) h = _
    unfold b_X6_reasonsWith_4
    rw [c.m, if_neg (nI_ge hj (by omega)), if_pos (inb_nI (by omega) (by omega)), nI_cl (by omega), c.pa hj, nI_1, x_has _ hx, bd_some, if10]
    by_cases e : bt (p.pa j) x = true
    · rw [if_pos e, ms_s (P := fun k => bt (p.pa k) x) e]
    · rw [if_neg e, ms_n (P := fun k => bt (p.pa k) x) e]) (by
    intro F
    show b_X6_reasonsWith_4 (l_X6_reasonsWith_4 F) 0 (nI x) _ (nI p.m) h = _
    unfold b_X6_reasonsWith_4
    rw [c.m, if_pos (Int32.le_refl _)]
    rfl) (by omega)
  rw [nI_0] at this
  show bd (l_X6_reasonsWith_4 FU 0 (nI x) (ms (fun k => bt (p.pa k) x) 0) 0 h) _ = _
  rw [this]
  rfl
theorem m_reasonsWith {h : AH} {p : PD} {s : SD} (c : MC h p s) {x : Nat} (hx : x < 32) : f_X12_reasonsWith (nI x) h = some (RW p x, h) := by
  have hm := c.1.m14
  unfold f_X12_reasonsWith
  have := lp0 (fun F j => l_X12_reasonsWith_4 F (nI x) (ms (fun k => bt (p.pa k) x) j) (nI j) h) p.m (some (RW p x, h)) (by
    intro F j hj
    show b_X12_reasonsWith_4 (l_X12_reasonsWith_4 F) (nI x) _ (nI j) h = _
    unfold b_X12_reasonsWith_4
    rw [c.m, if_neg (nI_ge hj (by omega)), if_pos (inb_nI (by omega) (by omega)), nI_cl (by omega), c.pa hj, nI_1, m_has _ hx, bd_some, if10]
    by_cases e : bt (p.pa j) x = true
    · rw [if_pos e, ms_s (P := fun k => bt (p.pa k) x) e]
    · rw [if_neg e, ms_n (P := fun k => bt (p.pa k) x) e]) (by
    intro F
    show b_X12_reasonsWith_4 (l_X12_reasonsWith_4 F) (nI x) _ (nI p.m) h = _
    unfold b_X12_reasonsWith_4
    rw [c.m, if_pos (Int32.le_refl _)]
    rfl) (by omega)
  rw [nI_0] at this
  show bd (l_X12_reasonsWith_4 FU (nI x) (ms (fun k => bt (p.pa k) x) 0) 0 h) _ = _
  rw [this]
  rfl
/-! usable -/
def us (p : PD) (s : SD) (k : Nat) : Bool := !bt s.aw (p.co k) && decide (p.pa k &&& s.aw = 0)
theorem x_isUsable {h : AH} {p : PD} {s : SD} (c : XC h p s) {k : Nat} (hk : k < p.m) : f_X0_isUsable (nI k) h = some (if us p s k = true then 1 else 0, h) := by
  have hm := c.1.m14
  have h1 := c.1.co10 hk
  unfold f_X0_isUsable us
  rw [if_pos (inb_nI (by omega) (by omega)), nI_cl (by omega), c.co hk, c.aw, x_has _ (by omega), bd_some, if10]
  by_cases a : bt s.aw (p.co k) = true
  · rw [if_pos a, a]; rfl
  · rw [if_neg a, if_pos (inb_nI (by omega) (by omega)), c.pa hk, c.aw]
    simp only [Bool.not_eq_true] at a
    rw [a]
    by_cases b : p.pa k &&& s.aw = 0
    · rw [if_pos b, decide_eq_true b]; rfl
    · rw [if_neg b, decide_eq_false b]; rfl
theorem us_m {p : PD} {s : SD} {k : Nat} (h1 : p.co k < 10) : ((((1 : Int32) <<< (nI (p.co k) &&& 31)) ||| p.pa k) &&& s.aw = 0) ↔ us p s k = true := by
  unfold us
  rw [bt_eq0, Bool.and_eq_true, decide_eq_true_eq, bt_eq0]
  constructor
  · intro h
    refine ⟨?_, fun i hi => ?_⟩
    · have := h (p.co k) (by omega)
      rw [bt_and, bt_or, bt_sl _ (by omega) _ (by omega)] at this
      simpa using this
    · have := h i hi
      rw [bt_and, bt_or] at this
      rw [bt_and]
      cases ha : bt (p.pa k) i
      · rfl
      · rw [ha] at this; simpa using this
  · rintro ⟨a, b⟩ i hi
    have := b i hi
    rw [bt_and] at this
    rw [bt_and, bt_or, bt_sl _ (by omega) _ hi]
    by_cases e : i = p.co k
    · subst e
      simp only [Bool.not_eq_true'] at a
      rw [a, Bool.and_false]
    · rw [decide_eq_false e, Bool.false_or, this]
theorem m_isUsable {h : AH} {p : PD} {s : SD} (c : MC h p s) {k : Nat} (hk : k < p.m) : f_X12_isUsable (nI k) h = some (if us p s k = true then 1 else 0, h) := by
  have hm := c.1.m14
  have h1 := c.1.co10 hk
  unfold f_X12_isUsable
  rw [if_pos (inb_nI (by omega) (by omega)), if_pos (inb_nI (by omega) (by omega)), nI_cl (by omega), c.co hk, c.pa hk, c.aw]
  by_cases a : us p s k = true
  · rw [if_pos (us_m h1 |>.mpr a), if_pos a]; rfl
  · rw [if_neg (fun z => a (us_m h1 |>.mp z)), if_neg a]; rfl
