/-! ===== what stands, by the reference ===== -/
def swM (p : PD) (s : SD) (cl rs was a : Int32) : Nat → Int32
  | 0 => a
  | j + 1 => swM p s cl rs was a j ||| (if bt rs j = true ∧ us p s j = true ∧ bt cl (p.co j) = true ∧ p.pa j &&& (was ^^^ (-1)) = 0 then (1 : Int32) <<< (nI (p.co j) &&& 31) else 0)
theorem swM_inc (p : PD) (s : SD) (cl rs was a : Int32) : ∀ j, inc a (swM p s cl rs was a j)
  | 0 => inc.rfl
  | j + 1 => (swM_inc p s cl rs was a j).tr (inc_or _ _)
theorem swM_inc2 (p : PD) (s : SD) (cl rs was a : Int32) (j : Nat) : ∀ d, inc (swM p s cl rs was a j) (swM p s cl rs was a (j + d))
  | 0 => inc.rfl
  | d + 1 => (swM_inc2 p s cl rs was a j d).tr (inc_or _ _)
def gM (s : SD) (cl : Int32) (i : Nat) : Bool := !bt cl i || bt s.aw i
theorem us_aw {p : PD} {s : SD} {k : Nat} (h : us p s k = true) : bt s.aw (p.co k) = false := by
  unfold us at h
  rw [Bool.and_eq_true] at h
  simpa using h.1
theorem swM_snd {p : PD} (v : PV p) {s : SD} {cl rs was a : Int32} (hw : ∀ i, bt was i = true → Std p (gM s cl) (bt rs) i) (h : ∀ i, bt a i = true → Std p (gM s cl) (bt rs) i) : ∀ j, j ≤ p.m → ∀ i, bt (swM p s cl rs was a j) i = true → Std p (gM s cl) (bt rs) i
  | 0, _, i, hi => h i hi
  | j + 1, hj, i, hi => by
    have h1 := v.co10 (show j < p.m by omega)
    have ih := swM_snd v hw h j (by omega)
    have hi' : bt (swM p s cl rs was a j ||| (if bt rs j = true ∧ us p s j = true ∧ bt cl (p.co j) = true ∧ p.pa j &&& (was ^^^ (-1)) = 0 then (1 : Int32) <<< (nI (p.co j) &&& 31) else 0)) i = true := hi
    rw [bt_or, Bool.or_eq_true] at hi'
    rcases hi' with z | z
    · exact ih i z
    · split at z
      · rename_i q
        rw [bt_one (by omega)] at z
        subst z
        refine (Std.cls p (gM s cl) (bt rs)).2 j (by omega) q.1 ?_ (fun y hy => hw y (and_not0.mp q.2.2.2 y hy))
        rw [gM, q.2.2.1, us_aw q.2.1]; rfl
      · rw [bt_0] at z; contradiction
theorem sub_swM {p : PD} (v : PV p) {s : SD} {cl rs was a : Int32} (h : sub a p.n) : ∀ j, j ≤ p.m → sub (swM p s cl rs was a j) p.n
  | 0, _ => h
  | j + 1, hj => by
    have h1 := v.co10 (show j < p.m by omega)
    intro i hi
    have hi' : bt (swM p s cl rs was a j ||| (if bt rs j = true ∧ us p s j = true ∧ bt cl (p.co j) = true ∧ p.pa j &&& (was ^^^ (-1)) = 0 then (1 : Int32) <<< (nI (p.co j) &&& 31) else 0)) i = true := hi
    rw [bt_or, Bool.or_eq_true] at hi'
    rcases hi' with z | z
    · exact sub_swM v h j (by omega) i z
    · split at z
      · rw [bt_one (by omega)] at z
        rw [z]
        exact v.con (by omega)
      · rw [bt_0] at z; contradiction
theorem swM_cls {p : PD} (v : PV p) {s : SD} {cl rs a : Int32} (hs : ∀ i, bt a i = true → Std p (gM s cl) (bt rs) i) (h : swM p s cl rs a a p.m = a) : ∀ k, k < p.m → bt rs k = true → gM s cl (p.co k) = false → (∀ y, bt (p.pa k) y = true → bt a y = true) → bt a (p.co k) = true := by
  intro k hk h1 h2 h3
  have h10 := v.co10 hk
  have e2 : inc (swM p s cl rs a a (k + 1)) a := by
    have := swM_inc2 p s cl rs a a (k + 1) (p.m - (k + 1))
    rw [show k + 1 + (p.m - (k + 1)) = p.m by omega, h] at this
    exact this
  unfold gM at h2
  rw [Bool.or_eq_false_iff] at h2
  have hcl : bt cl (p.co k) = true := by simpa using h2.1
  have hu : us p s k = true := by
    unfold us
    rw [h2.2, Bool.and_eq_true, decide_eq_true_eq]
    refine ⟨rfl, ?_⟩
    rw [bt_eq0]
    intro i hi
    rw [bt_and]
    cases e : bt (p.pa k) i
    · rfl
    · have := (hs i (h3 i e)).ng
      unfold gM at this
      rw [Bool.or_eq_false_iff] at this
      rw [this.2]; rfl
  apply e2
  show bt (swM p s cl rs a a k ||| _) (p.co k) = true
  rw [if_pos ⟨h1, hu, hcl, and_not0.mpr h3⟩, bt_or, Bool.or_eq_true]
  right
  rw [bt_one (by omega)]
theorem m_sweep {h : AH} {p : PD} {s : SD} (c : MC h p s) (cl rs a was : Int32) : l_X12_standing_42 FU cl rs a was 0 h = some (swM p s cl rs was a p.m, h) := by
  have hm := c.1.m14
  have := lp0 (fun F j => l_X12_standing_42 F cl rs (swM p s cl rs was a j) was (nI j) h) p.m (some (swM p s cl rs was a p.m, h)) (by
    intro F j hj
    show b_X12_standing_42 (l_X12_standing_42 F) cl rs _ was (nI j) h = l_X12_standing_42 F cl rs (swM p s cl rs was a j ||| (if bt rs j = true ∧ us p s j = true ∧ bt cl (p.co j) = true ∧ p.pa j &&& (was ^^^ (-1)) = 0 then (1 : Int32) <<< (nI (p.co j) &&& 31) else 0)) was (nI (j + 1)) h
    have hb : inb (nI j) 14 = true := inb_nI (by omega) (by omega)
    have h10 := c.1.co10 hj
    unfold b_X12_standing_42
    rw [c.m, if_neg (nI_ge hj (by omega)), m_has _ (by omega), bd_some, if10, m_isUsable c hj, bd_some, if10, if_pos hb, nI_cl (by omega), c.co hj, nI_1, m_has _ (by omega), bd_some, if10, if_pos hb, if_pos hb, c.pa hj, c.co hj]
    by_cases e : bt rs j = true
    · rw [if_pos e]
      by_cases f : us p s j = true
      · rw [if_pos f]
        by_cases g : bt cl (p.co j) = true
        · rw [if_pos g]
          by_cases q : p.pa j &&& (was ^^^ (-1)) = 0
          · rw [if_pos q, if_pos ⟨e, f, g, q⟩]
          · rw [if_neg q, if_neg (fun z => q z.2.2.2)]
        · rw [if_neg g, if_neg (fun z => g z.2.2.1)]
      · rw [if_neg f, if_neg (fun z => f z.2.1)]
    · rw [if_neg e, if_neg (fun z => e z.1)]) (by
    intro F
    show b_X12_standing_42 (l_X12_standing_42 F) cl rs _ was (nI p.m) h = _
    unfold b_X12_standing_42
    rw [c.m, if_pos (Int32.le_refl _)]) (by omega)
  rw [nI_0] at this
  exact this
def itM (p : PD) (s : SD) (cl rs a : Int32) : Nat → Int32
  | 0 => a
  | j + 1 => swM p s cl rs (itM p s cl rs a j) (itM p s cl rs a j) p.m
theorem m_rounds {h : AH} {p : PD} {s : SD} (c : MC h p s) (cl rs a : Int32) {t : Nat} (ht : t ≤ 10) (e : itM p s cl rs a (t + 1) = itM p s cl rs a t) (ne : ∀ i, i < t → ¬ itM p s cl rs a (i + 1) = itM p s cl rs a i) (n9 : ¬ (-9 : Int32) = a) : l_X12_standing_35 FU cl rs a (-9) h = some (itM p s cl rs a t, h) := by
  have := lp0 (fun F j => l_X12_standing_35 F cl rs (itM p s cl rs a j) (if j = 0 then -9 else itM p s cl rs a (j - 1)) h) (t + 1) (some (itM p s cl rs a (t + 1), h)) (by
    intro F j hj
    show b_X12_standing_35 (l_X12_standing_35 F) cl rs _ _ h = _
    unfold b_X12_standing_35
    rw [if_neg (c := (if j = 0 then -9 else itM p s cl rs a (j - 1)) = itM p s cl rs a j), m_sweep c, bd_some, if_neg (show ¬ j + 1 = 0 by omega)]
    · rfl
    · by_cases z : j = 0
      · rw [if_pos z, z]; exact n9
      · rw [if_neg z]
        intro q
        have := ne (j - 1) (by omega)
        rw [show j - 1 + 1 = j by omega] at this
        exact this q.symm) (by
    intro F
    show b_X12_standing_35 (l_X12_standing_35 F) cl rs _ _ h = _
    unfold b_X12_standing_35
    rw [if_pos (c := (if t + 1 = 0 then -9 else itM p s cl rs a (t + 1 - 1)) = itM p s cl rs a (t + 1))]
    rw [if_neg (by omega), Nat.add_sub_cancel, e]) (by omega)
  rw [if_pos rfl, e] at this
  exact this
theorem m_standing {h : AH} {p : PD} {s : SD} (c : MC h p s) (cl rs : Int32) : f_X12_standing cl rs h = some (ST p (gM s cl) (bt rs), h) := by
  have hn := c.1.n10
  unfold f_X12_standing
  have hb := lp0 (fun F j => l_X12_standing_4 F cl rs (ms (fun x => decide (p.ki x = 1) && bt (cl &&& (s.aw ^^^ (-1))) x) j) (nI j) h) p.n (some (ms (fun x => decide (p.ki x = 1) && bt (cl &&& (s.aw ^^^ (-1))) x) p.n, h)) (by
    intro F j hj
    show b_X12_standing_4 (l_X12_standing_4 F) cl rs _ (nI j) h = _
    have hk := c.1.ki5 hj
    have e1 : (nI (p.ki j) = 1) ↔ p.ki j = 1 := nI_eq (b := 1) (by omega) (by omega)
    unfold b_X12_standing_4
    rw [c.n, if_neg (nI_ge hj (by omega)), if_pos (inb_nI (by omega) (by omega)), nI_cl (by omega), c.ki hj, c.aw, m_has _ (by omega), bd_some, if10, nI_1]
    by_cases e : p.ki j = 1
    · rw [if_pos (e1.mpr e)]
      by_cases f : bt (cl &&& (s.aw ^^^ (-1))) j = true
      · rw [if_pos f, ms_s (by simp only [decide_eq_true e, f]; rfl)]
      · rw [if_neg f, ms_n (fun z => f (Bool.and_eq_true _ _ ▸ z).2)]
    · rw [if_neg (fun z => e (e1.mp z)), ms_n (by simp [e])]) (by
    intro F
    show b_X12_standing_4 (l_X12_standing_4 F) cl rs _ (nI p.n) h = _
    unfold b_X12_standing_4
    rw [c.n, if_pos (Int32.le_refl _)]) (by omega)
  rw [nI_0] at hb
  show bd (l_X12_standing_4 FU cl rs (ms (fun x => decide (p.ki x = 1) && bt (cl &&& (s.aw ^^^ (-1))) x) 0) 0 h) _ = _
  rw [hb, bd_some]
  unfold c_X12_standing_33
  have hbase : ∀ i, bt (ms (fun x => decide (p.ki x = 1) && bt (cl &&& (s.aw ^^^ (-1))) x) p.n) i = true ↔ i < p.n ∧ p.ki i = 1 ∧ gM s cl i = false := by
    intro i
    rw [bt_ms _ _ (by omega), Bool.and_eq_true, Bool.and_eq_true, bt_and, Bool.and_eq_true, bt_not', decide_eq_true_eq, decide_eq_true_eq]
    unfold gM
    rw [Bool.or_eq_false_iff]
    constructor
    · rintro ⟨z1, z2, z3, -, z5⟩
      exact ⟨z1, z2, by rw [z3]; rfl, z5⟩
    · rintro ⟨z1, z2, z3, z4⟩
      exact ⟨z1, z2, by simpa using z3, by omega, z4⟩
  generalize ms (fun x => decide (p.ki x = 1) && bt (cl &&& (s.aw ^^^ (-1))) x) p.n = A at hbase
  have hsub : ∀ j, sub (itM p s cl rs A j) p.n := by
    intro j
    induction j with
    | zero => exact fun i hi => ((hbase i).mp hi).1
    | succ j ih => exact sub_swM c.1 ih p.m (Nat.le_refl _)
  have hsnd : ∀ j, ∀ i, bt (itM p s cl rs A j) i = true → Std p (gM s cl) (bt rs) i := by
    intro j
    induction j with
    | zero => exact fun i hi => (Std.cls p (gM s cl) (bt rs)).1 i ((hbase i).mp hi).1 ((hbase i).mp hi).2.1 ((hbase i).mp hi).2.2
    | succ j ih => exact swM_snd c.1 ih ih p.m (Nat.le_refl _)
  have hinc : ∀ j, inc A (itM p s cl rs A j) := by
    intro j
    induction j with
    | zero => exact inc.rfl
    | succ j ih => exact ih.tr (swM_inc p s cl rs _ _ p.m)
  have n9 : ¬ (-9 : Int32) = A := by
    intro z
    have h1 : bt (-9) 31 = true := by decide
    rw [z] at h1
    have := ((hbase 31).mp h1).1
    omega
  obtain ⟨t, ht, e, ne⟩ := stab (itM p s cl rs A) (n := p.n) (fun i => swM_inc p s cl rs _ _ p.m) hsub
  rw [m_rounds c cl rs A (by omega) e ne n9, bd_some]
  unfold c_X12_standing_90
  rw [ST_eq c.1 (hsnd t) ⟨fun x h1 h2 h3 => hinc t x ((hbase x).mpr ⟨h1, h2, h3⟩), swM_cls c.1 (hsnd t) e⟩]
theorem ST_c {p : PD} (v : PV p) {g g' r r' : Nat → Bool} (hg : ∀ x, x < p.n → g x = g' x) (hr : ∀ k, k < p.m → r k = r' k) : ST p g r = ST p g' r' := by
  have : ∀ S, Cls p g r S ↔ Cls p g' r' S := by
    intro S
    constructor
    · rintro ⟨a, b⟩
      refine ⟨fun x h1 h2 h3 => a x h1 h2 (by rw [hg x h1]; exact h3), fun k h1 h2 h3 h4 => b k h1 (by rw [hr k h1]; exact h2) (by rw [hg _ (v.con h1)]; exact h3) h4⟩
    · rintro ⟨a, b⟩
      refine ⟨fun x h1 h2 h3 => a x h1 h2 (by rw [← hg x h1]; exact h3), fun k h1 h2 h3 h4 => b k h1 (by rw [← hr k h1]; exact h2) (by rw [← hg _ (v.con h1)]; exact h3) h4⟩
  refine inc.eq (fun i hi => ?_) (fun i hi => ?_)
  · rw [bt_ST v] at hi ⊢
    exact fun S hS => hi S ((this S).mpr hS)
  · rw [bt_ST v] at hi ⊢
    exact fun S hS => hi S ((this S).mp hS)
/-- what stands now; what stands where G is gone, too -/
noncomputable def SN (p : PD) (s : SD) : Int32 := ST p (bt s.aw) (fun _ => true)
noncomputable def SW (p : PD) (s : SD) (G : Int32) : Int32 := ST p (fun i => bt s.aw i || bt G i) (fun _ => true)
theorem x_standing {h : AH} {p : PD} {s : SD} (c : XC h p s) : f_X0_standing h = some (SN p s, h) := by
  have hm := c.1.m14
  unfold f_X0_standing
  rw [c.aw, x_standingBy c, bd_some, SN, ST_c c.1 (fun _ _ => rfl) (fun k hk => bt_m1 k (by omega))]
theorem x_standW {h : AH} {p : PD} {s : SD} (c : XC h p s) (G : Int32) : f_X0_standingBy (s.aw ||| G) (-1) h = some (SW p s G, h) := by
  have hm := c.1.m14
  rw [x_standingBy c, SW, ST_c c.1 (fun i _ => bt_or _ _ i) (fun k hk => bt_m1 k (by omega))]
theorem m_standNow {h : AH} {p : PD} {s : SD} (c : MC h p s) : f_X12_standNow h = some (SN p s, h) := by
  have hm := c.1.m14
  have hn := c.1.n10
  unfold f_X12_standNow
  rw [m_allC c, bd_some, m_allR c, bd_some, m_standing c, bd_some, SN, ST_c c.1 (g' := bt s.aw) (r' := fun _ => true) (fun x hx => ?_) (fun k hk => ?_)]
  · rw [gM, bt_AL (by omega) (by omega), decide_eq_true hx]; rfl
  · rw [bt_AL (by omega) (by omega), decide_eq_true hk]
theorem m_standW {h : AH} {p : PD} {s : SD} (c : MC h p s) (G : Int32) : f_X12_standWithout G h = some (SW p s G, h) := by
  have hm := c.1.m14
  have hn := c.1.n10
  unfold f_X12_standWithout
  rw [m_allC c, bd_some, m_allR c, bd_some, m_standing c, bd_some, SW, ST_c c.1 (g' := fun i => bt s.aw i || bt G i) (r' := fun _ => true) (fun x hx => ?_) (fun k hk => ?_)]
  · rw [gM, bt_and, bt_AL (by omega) (by omega), decide_eq_true hx, bt_not _ (by omega), Bool.true_and, Bool.not_not, Bool.or_comm]
  · rw [bt_AL (by omega) (by omega), decide_eq_true hk]
noncomputable def FS (p : PD) (s : SD) (x : Nat) : Int32 := (SN p s &&& (SW p s ((1 : Int32) <<< (nI x &&& 31)) ^^^ (-1))) &&& (((1 : Int32) <<< (nI x &&& 31)) ^^^ (-1))
theorem x_falling {h : AH} {p : PD} {s : SD} (c : XC h p s) (x : Nat) : f_X0_fallingWithout (nI x) h = some (FS p s x, h) := by
  unfold f_X0_fallingWithout
  rw [x_standing c, bd_some, c.aw, x_standW c, bd_some]
  rfl
theorem m_fallSet {h : AH} {p : PD} {s : SD} (c : MC h p s) (x : Nat) : f_X12_fallSet (nI x) h = some (FS p s x, h) := by
  unfold f_X12_fallSet
  rw [m_standNow c, bd_some, m_standW c, bd_some]
  rfl
theorem e_stands : E0 Rel f_X11_stands f_X12_stands := by
  intro hx hm h
  show OR _ _
  obtain ⟨b, p, s, d⟩ := h
  have h : Rel hx hm := ⟨b, p, s, d⟩
  unfold f_X11_stands f_X12_stands
  simp only [x_standing d.x, m_standNow d.m, bd_some, x_all d.x, m_allC d.m, d.x.aw, d.m.aw, m_tells]
  have : (AL p.n &&& (SN p s ^^^ (-1))) &&& (s.aw ^^^ (-1)) = (AL p.n &&& (s.aw ^^^ (-1))) &&& (SN p s ^^^ (-1)) := by
    rw [Int32.and_assoc, Int32.and_comm (SN p s ^^^ (-1)), ← Int32.and_assoc]
  rw [this]
  exact OR.told h _ rfl rfl
theorem e_without : E1 Rel f_X11_without f_X12_without := by
  intro a hx hm h
  show OR _ _
  obtain ⟨b, p, s, d⟩ := h
  have h : Rel hx hm := ⟨b, p, s, d⟩
  unfold f_X11_without f_X12_without
  simp only [x_isClaim d.x, m_isClaim d.m, bd_some, if10]
  by_cases hb : inb a p.n = true
  rotate_left
  · simp only [if_neg hb]; exact OR.same h rfl rfl
  obtain ⟨x, hxn, rfl⟩ := inb_ex hb
  simp only [if_pos hb, x_falling d.x, m_fallSet d.m, bd_some]
  exact OR.same h rfl rfl
