/-! ===== what can be reached, by the reference ===== -/
/-- the parts of usable reasons for x among the first j -/
def nxs (p : PD) (s : SD) (x : Nat) : Nat → Int32
  | 0 => 0
  | j + 1 => nxs p s x j ||| (if p.co j = x ∧ us p s j = true then p.pa j else 0)
theorem bt_nxs (p : PD) (s : SD) (x : Nat) : ∀ j i, bt (nxs p s x j) i = true ↔ ∃ k, k < j ∧ p.co k = x ∧ us p s k = true ∧ bt (p.pa k) i = true
  | 0, i => ⟨fun z => absurd z (by show ¬ bt 0 i = true; rw [bt_0]; exact Bool.false_ne_true), fun ⟨k, hk, _⟩ => by omega⟩
  | j + 1, i => by
    show bt (nxs p s x j ||| _) i = true ↔ _
    rw [bt_or, Bool.or_eq_true, bt_nxs p s x j i]
    constructor
    · rintro (⟨k, a, b⟩ | z)
      · exact ⟨k, by omega, b⟩
      · split at z
        · rename_i q
          exact ⟨j, by omega, q.1, q.2, z⟩
        · rw [bt_0] at z; contradiction
    · rintro ⟨k, a, b, c, d⟩
      by_cases e : k = j
      · subst e
        right
        rw [if_pos ⟨b, c⟩]; exact d
      · exact Or.inl ⟨k, by omega, b, c, d⟩
theorem m_nextSet {h : AH} {p : PD} {s : SD} (c : MC h p s) {x : Nat} (hx : x < 32) : f_X12_nextSet (nI x) h = some (nxs p s x p.m, h) := by
  have hm := c.1.m14
  unfold f_X12_nextSet
  have := lp0 (fun F j => l_X12_nextSet_4 F (nI x) (nxs p s x j) (nI j) h) p.m (some (nxs p s x p.m, h)) (by
    intro F j hj
    show b_X12_nextSet_4 (l_X12_nextSet_4 F) (nI x) _ (nI j) h = l_X12_nextSet_4 F (nI x) (nxs p s x j ||| (if p.co j = x ∧ us p s j = true then p.pa j else 0)) (nI (j + 1)) h
    have h1 := c.1.co10 hj
    have hb : inb (nI j) 14 = true := inb_nI (by omega) (by omega)
    unfold b_X12_nextSet_4
    rw [c.m, if_neg (nI_ge hj (by omega)), if_pos hb, nI_cl (by omega), c.co hj, nI_1, m_isUsable c hj, bd_some, if10, if_pos hb, c.pa hj]
    by_cases e : p.co j = x
    · rw [if_pos (by rw [e])]
      by_cases f : us p s j = true
      · rw [if_pos f, if_pos ⟨e, f⟩]
      · rw [if_neg f, if_neg (fun z => f z.2)]
    · rw [if_neg (by rw [nI_eq (by omega) (by omega)]; exact e), if_neg (fun z => e z.1)]) (by
    intro F
    show b_X12_nextSet_4 (l_X12_nextSet_4 F) (nI x) _ (nI p.m) h = _
    unfold b_X12_nextSet_4
    rw [c.m, if_pos (Int32.le_refl _)]) (by omega)
  rw [nI_0] at this
  show bd (l_X12_nextSet_4 FU (nI x) (nxs p s x 0) 0 h) _ = _
  rw [this]
  rfl
def swC (p : PD) (s : SD) (was a : Int32) : Nat → Int32
  | 0 => a
  | j + 1 => swC p s was a j ||| (if bt was j = true then nxs p s j p.m else 0)
theorem bt_swC (p : PD) (s : SD) (was a : Int32) : ∀ j i, bt (swC p s was a j) i = true ↔ bt a i = true ∨ ∃ y, y < j ∧ bt was y = true ∧ bt (nxs p s y p.m) i = true
  | 0, i => ⟨fun z => Or.inl z, fun z => z.elim id (fun ⟨k, hk, _⟩ => by omega)⟩
  | j + 1, i => by
    show bt (swC p s was a j ||| _) i = true ↔ _
    rw [bt_or, Bool.or_eq_true, bt_swC p s was a j i]
    constructor
    · rintro ((z | ⟨k, b, d⟩) | z)
      · exact Or.inl z
      · exact Or.inr ⟨k, by omega, d⟩
      · split at z
        · rename_i q
          exact Or.inr ⟨j, by omega, q, z⟩
        · rw [bt_0] at z; contradiction
    · rintro (z | ⟨y, b, d, e⟩)
      · exact Or.inl (Or.inl z)
      · by_cases f : y = j
        · subst f
          right
          rw [if_pos d]; exact e
        · exact Or.inl (Or.inr ⟨y, by omega, d, e⟩)
theorem m_sweepC {h : AH} {p : PD} {s : SD} (c : MC h p s) (a was : Int32) : l_X12_comesTo_13 FU a was 0 h = some (swC p s was a p.n, h) := by
  have hn := c.1.n10
  have := lp0 (fun F j => l_X12_comesTo_13 F (swC p s was a j) was (nI j) h) p.n (some (swC p s was a p.n, h)) (by
    intro F j hj
    show b_X12_comesTo_13 (l_X12_comesTo_13 F) _ was (nI j) h = l_X12_comesTo_13 F (swC p s was a j ||| (if bt was j = true then nxs p s j p.m else 0)) was (nI (j + 1)) h
    unfold b_X12_comesTo_13
    rw [c.n, if_neg (nI_ge hj (by omega)), m_has _ (by omega), bd_some, if10, m_nextSet c (by omega), bd_some, nI_1]
    by_cases e : bt was j = true
    · rw [if_pos e, if_pos e]
    · rw [if_neg e, if_neg e]) (by
    intro F
    show b_X12_comesTo_13 (l_X12_comesTo_13 F) _ was (nI p.n) h = _
    unfold b_X12_comesTo_13
    rw [c.n, if_pos (Int32.le_refl _)]) (by omega)
  rw [nI_0] at this
  exact this
def itC (p : PD) (s : SD) (a : Int32) : Nat → Int32
  | 0 => a
  | j + 1 => swC p s (itC p s a j) (itC p s a j) p.n
theorem m_roundsC {h : AH} {p : PD} {s : SD} (c : MC h p s) (a : Int32) {t : Nat} (ht : t ≤ 10) (e : itC p s a (t + 1) = itC p s a t) (ne : ∀ i, i < t → ¬ itC p s a (i + 1) = itC p s a i) (n0 : ¬ (0 : Int32) = a) : l_X12_comesTo_6 FU a 0 h = some (itC p s a t, h) := by
  have := lp0 (fun F j => l_X12_comesTo_6 F (itC p s a j) (if j = 0 then 0 else itC p s a (j - 1)) h) (t + 1) (some (itC p s a (t + 1), h)) (by
    intro F j hj
    show b_X12_comesTo_6 (l_X12_comesTo_6 F) _ _ h = _
    unfold b_X12_comesTo_6
    rw [if_neg (c := (if j = 0 then 0 else itC p s a (j - 1)) = itC p s a j), m_sweepC c, bd_some, if_neg (show ¬ j + 1 = 0 by omega)]
    · rfl
    · by_cases z : j = 0
      · rw [if_pos z, z]; exact n0
      · rw [if_neg z]
        intro q
        have := ne (j - 1) (by omega)
        rw [show j - 1 + 1 = j by omega] at this
        exact this q.symm) (by
    intro F
    show b_X12_comesTo_6 (l_X12_comesTo_6 F) _ _ h = _
    unfold b_X12_comesTo_6
    rw [if_pos (c := (if t + 1 = 0 then 0 else itC p s a (t + 1 - 1)) = itC p s a (t + 1))]
    rw [if_neg (by omega), Nat.add_sub_cancel, e]) (by omega)
  rw [if_pos rfl, e] at this
  exact this
theorem m_comesTo {h : AH} {p : PD} {s : SD} (c : MC h p s) {x : Nat} (hx : x < p.n) : f_X12_comesTo (nI x) h = some (RC p s x, h) := by
  have hn := c.1.n10
  unfold f_X12_comesTo
  have hbase : ∀ i, bt ((1 : Int32) <<< (nI x &&& 31)) i = true ↔ i = x := fun i => bt_one (by omega)
  generalize (1 : Int32) <<< (nI x &&& 31) = A at hbase
  have n0 : ¬ (0 : Int32) = A := by
    intro z
    have := (hbase x).mpr rfl
    rw [← z, bt_0] at this
    contradiction
  have hmono : ∀ j, inc (itC p s A j) (itC p s A (j + 1)) := fun j i hi => (bt_swC p s _ _ p.n i).mpr (Or.inl hi)
  have hsnd : ∀ j, ∀ i, bt (itC p s A j) i = true → Rch p s x i := by
    intro j
    induction j with
    | zero => intro i hi; rw [(hbase i).mp hi]; exact (Rch.cl p s x).1
    | succ j ih =>
      intro i hi
      rcases (bt_swC p s _ _ p.n i).mp hi with z | ⟨y, -, b, d⟩
      · exact ih i z
      · obtain ⟨k, k1, k2, k3, k4⟩ := (bt_nxs p s y p.m i).mp d
        exact (Rch.cl p s x).2 k k1 k3 (by rw [k2]; exact ih y b) i k4
  have hinc : ∀ j, inc A (itC p s A j) := by
    intro j
    induction j with
    | zero => exact inc.rfl
    | succ j ih => exact ih.tr (hmono j)
  obtain ⟨t, ht, e, ne⟩ := stab (itC p s A) (n := p.n) hmono (fun j i hi => (hsnd j i hi).lt c.1 hx)
  rw [m_roundsC c A (by omega) e ne n0, bd_some]
  unfold c_X12_comesTo_32
  rw [RC_eq c.1 hx (hsnd t) ⟨hinc t x ((hbase x).mpr rfl), fun k hk h1 h2 y hy => ?_⟩]
  have : bt (itC p s A (t + 1)) y = true := (bt_swC p s _ _ p.n y).mpr (Or.inr ⟨p.co k, c.1.con hk, h2, (bt_nxs p s _ p.m y).mpr ⟨k, hk, rfl, h1, hy⟩⟩)
  rw [e] at this
  exact this
