/-! ===== what stands ===== -/
def inc (a b : Int32) : Prop := ∀ i, bt a i = true → bt b i = true
theorem inc.rfl {a : Int32} : inc a a := fun _ h => h
theorem inc.tr {a b c : Int32} (h : inc a b) (g : inc b c) : inc a c := fun i hi => g i (h i hi)
theorem inc_or (a b : Int32) : inc a (a ||| b) := fun i h => by rw [bt_or, h]; rfl
theorem inc.eq {a b : Int32} (h : inc a b) (g : inc b a) : a = b := bt_ext (fun i _ => by
  rw [Bool.eq_iff_iff]
  exact ⟨h i, g i⟩)
theorem cnt_le (P : Nat → Bool) : ∀ n, cnt P n ≤ n
  | 0 => Nat.le_refl _
  | n + 1 => by
    have := cnt_le P n
    show cnt P n + _ ≤ _
    split <;> omega
theorem cnt_mono {P Q : Nat → Bool} (h : ∀ i, P i = true → Q i = true) : ∀ n, cnt P n ≤ cnt Q n
  | 0 => Nat.le_refl _
  | n + 1 => by
    have := cnt_mono h n
    show cnt P n + (if P n = true then 1 else 0) ≤ cnt Q n + (if Q n = true then 1 else 0)
    by_cases e : P n = true
    · rw [if_pos e, if_pos (h n e)]; omega
    · rw [if_neg e]; omega
theorem cnt_lt {P Q : Nat → Bool} (h : ∀ i, P i = true → Q i = true) : ∀ n i, i < n → P i = false → Q i = true → cnt P n < cnt Q n
  | 0, i, hi, _, _ => by omega
  | n + 1, i, hi, hp, hq => by
    show cnt P n + (if P n = true then 1 else 0) < cnt Q n + (if Q n = true then 1 else 0)
    by_cases e : i = n
    · subst e
      have := cnt_mono h i
      rw [if_neg (by rw [hp]; exact Bool.false_ne_true), if_pos hq]; omega
    · have := cnt_lt h n i (by omega) hp hq
      by_cases e : P n = true
      · rw [if_pos e, if_pos (h n e)]; omega
      · rw [if_neg e]; omega
theorem cnt_grow {a b : Int32} {n : Nat} (h : inc a b) (hb : sub b n) (ne : ¬ b = a) : cnt (bt a) n < cnt (bt b) n := by
  have : ∃ i, bt a i = false ∧ bt b i = true := by
    apply Classical.byContradiction
    intro z
    apply ne
    refine inc.eq (fun i hi => ?_) h
    cases ha : bt a i
    · exact absurd ⟨i, ha, hi⟩ z
    · rfl
  obtain ⟨i, h1, h2⟩ := this
  exact cnt_lt h n i (hb i h2) h1 h2
/-- what only grows within n bits stops growing within n steps -/
theorem stab (a : Nat → Int32) {n : Nat} (h : ∀ i, inc (a i) (a (i + 1))) (hs : ∀ i, sub (a i) n) : ∃ t, t ≤ n ∧ a (t + 1) = a t ∧ ∀ i, i < t → ¬ a (i + 1) = a i := by
  have key : ∀ t, (∃ u, u < t ∧ a (u + 1) = a u ∧ ∀ i, i < u → ¬ a (i + 1) = a i) ∨ ((∀ i, i < t → ¬ a (i + 1) = a i) ∧ t ≤ cnt (bt (a t)) n) := by
    intro t
    induction t with
    | zero => exact Or.inr ⟨fun i hi => by omega, Nat.zero_le _⟩
    | succ t ih =>
      rcases ih with ⟨u, hu, e, f⟩ | ⟨f, g⟩
      · exact Or.inl ⟨u, by omega, e, f⟩
      · by_cases e : a (t + 1) = a t
        · exact Or.inl ⟨t, by omega, e, f⟩
        · right
          refine ⟨fun i hi => ?_, ?_⟩
          · by_cases z : i = t
            · subst z; exact e
            · exact f i (by omega)
          · have := cnt_grow (h t) (hs (t + 1)) e
            omega
  rcases key (n + 1) with ⟨u, hu, e, f⟩ | ⟨f, g⟩
  · exact ⟨u, by omega, e, f⟩
  · have := cnt_le (bt (a (n + 1))) n
    omega
/-- closed under the ends and the reasons: g says what is gone, r which reasons count -/
def Cls (p : PD) (g r : Nat → Bool) (S : Nat → Prop) : Prop := (∀ x, x < p.n → p.ki x = 1 → g x = false → S x) ∧ ∀ k, k < p.m → r k = true → g (p.co k) = false → (∀ y, bt (p.pa k) y = true → S y) → S (p.co k)
def Std (p : PD) (g r : Nat → Bool) (x : Nat) : Prop := ∀ S, Cls p g r S → S x
noncomputable def ST (p : PD) (g r : Nat → Bool) : Int32 := ms (fun x => @decide (Std p g r x) (Classical.propDecidable _)) p.n
theorem Std.cls (p : PD) (g r : Nat → Bool) : Cls p g r (Std p g r) := ⟨fun x a b c S hS => hS.1 x a b c, fun k a b c d S hS => hS.2 k a b c (fun y hy => d y hy S hS)⟩
theorem Std.lt {p : PD} (v : PV p) {g r : Nat → Bool} {x : Nat} (h : Std p g r x) : x < p.n := h (fun x => x < p.n) ⟨fun _ a _ _ => a, fun _ a _ _ _ => v.con a⟩
theorem Std.ng {p : PD} {g r : Nat → Bool} {x : Nat} (h : Std p g r x) : g x = false := h (fun x => g x = false) ⟨fun _ _ _ c => c, fun _ _ _ c _ => c⟩
theorem bt_ST {p : PD} (v : PV p) (g r : Nat → Bool) (x : Nat) : bt (ST p g r) x = true ↔ Std p g r x := by
  have hn := v.n10
  rw [ST, bt_ms _ _ (by omega), Bool.and_eq_true, decide_eq_true_eq]
  constructor
  · rintro ⟨-, h⟩
    exact @of_decide_eq_true _ (Classical.propDecidable _) h
  · intro h
    exact ⟨h.lt v, @decide_eq_true _ (Classical.propDecidable _) h⟩
/-- a set that is sound, has the ends and is closed is what stands -/
theorem ST_eq {p : PD} (v : PV p) {g r : Nat → Bool} {a : Int32} (hs : ∀ i, bt a i = true → Std p g r i) (hc : Cls p g r (fun i => bt a i = true)) : a = ST p g r :=
  inc.eq (fun i hi => (bt_ST v g r i).mpr (hs i hi)) (fun i hi => (bt_ST v g r i).mp hi _ hc)
theorem and_not0 {a b : Int32} : a &&& (b ^^^ (-1)) = 0 ↔ inc a b := by
  rw [bt_eq0]
  constructor
  · intro h i hi
    have hi32 : i < 32 := by
      apply Classical.byContradiction
      intro z
      rw [bt_ge (by omega)] at hi
      contradiction
    have := h i hi32
    rw [bt_and, hi, bt_not _ hi32] at this
    simpa using this
  · intro h i hi
    rw [bt_and, bt_not _ hi]
    cases e : bt a i
    · rfl
    · rw [h i e]; rfl
/-! the class's sweep -/
def swX (p : PD) (g r a : Int32) : Nat → Int32
  | 0 => a
  | j + 1 => swX p g r a j ||| (if bt r j = true ∧ p.pa j &&& (swX p g r a j ^^^ (-1)) = 0 then ((1 : Int32) <<< (nI (p.co j) &&& 31)) &&& (g ^^^ (-1)) else 0)
theorem swX_inc (p : PD) (g r a : Int32) : ∀ j, inc a (swX p g r a j)
  | 0 => inc.rfl
  | j + 1 => (swX_inc p g r a j).tr (inc_or _ _)
theorem swX_inc2 (p : PD) (g r a : Int32) (j : Nat) : ∀ d, inc (swX p g r a j) (swX p g r a (j + d))
  | 0 => inc.rfl
  | d + 1 => (swX_inc2 p g r a j d).tr (inc_or _ _)
theorem bt_one {x : Nat} (hx : x < 32) {i : Nat} : bt ((1 : Int32) <<< (nI x &&& 31)) i = true ↔ i = x := by
  by_cases hi : i < 32
  · rw [bt_sl x hx i hi, decide_eq_true_eq]
  · rw [bt_ge (by omega)]
    exact ⟨fun z => by contradiction, fun z => by omega⟩
theorem bt_not' {x : Int32} {i : Nat} : bt (x ^^^ (-1)) i = true ↔ i < 32 ∧ bt x i = false := by
  by_cases hi : i < 32
  · rw [bt_not _ hi]
    simp [hi]
  · rw [bt_ge (by omega)]
    exact ⟨fun z => by contradiction, fun z => by omega⟩
theorem swX_snd {p : PD} (v : PV p) (g r : Int32) {a : Int32} (h : ∀ i, bt a i = true → Std p (bt g) (bt r) i) : ∀ j, j ≤ p.m → ∀ i, bt (swX p g r a j) i = true → Std p (bt g) (bt r) i
  | 0, _, i, hi => h i hi
  | j + 1, hj, i, hi => by
    have h1 := v.co10 (show j < p.m by omega)
    have ih := swX_snd v g r h j (by omega)
    have hi' : bt (swX p g r a j ||| (if bt r j = true ∧ p.pa j &&& (swX p g r a j ^^^ (-1)) = 0 then ((1 : Int32) <<< (nI (p.co j) &&& 31)) &&& (g ^^^ (-1)) else 0)) i = true := hi
    rw [bt_or, Bool.or_eq_true] at hi'
    rcases hi' with z | z
    · exact ih i z
    · split at z
      · rename_i q
        rw [bt_and, Bool.and_eq_true, bt_one (by omega), bt_not'] at z
        obtain ⟨e, -, f⟩ := z
        subst e
        exact (Std.cls p (bt g) (bt r)).2 j (by omega) q.1 f (fun y hy => ih y (and_not0.mp q.2 y hy))
      · rw [bt_0] at z; contradiction
theorem swX_cls {p : PD} (v : PV p) (g r : Int32) {a : Int32} (h : swX p g r a p.m = a) : ∀ k, k < p.m → bt r k = true → bt g (p.co k) = false → (∀ y, bt (p.pa k) y = true → bt a y = true) → bt a (p.co k) = true := by
  intro k hk h1 h2 h3
  have h10 := v.co10 hk
  have e : swX p g r a k = a := inc.eq (by
    have := swX_inc2 p g r a k (p.m - k)
    rw [show k + (p.m - k) = p.m by omega, h] at this
    exact this) (swX_inc p g r a k)
  have e2 : inc (swX p g r a (k + 1)) a := by
    have := swX_inc2 p g r a (k + 1) (p.m - (k + 1))
    rw [show k + 1 + (p.m - (k + 1)) = p.m by omega, h] at this
    exact this
  apply e2
  show bt (swX p g r a k ||| _) (p.co k) = true
  rw [e, if_pos ⟨h1, and_not0.mpr h3⟩, bt_or, Bool.or_eq_true]
  right
  rw [bt_and, Bool.and_eq_true, bt_one (by omega), bt_not']
  exact ⟨rfl, by omega, h2⟩
theorem x_sweep {h : AH} {p : PD} {s : SD} (c : XC h p s) (g r a x5 x6 : Int32) : l_X0_standingBy_29 FU g r a x5 x6 0 h = some (swX p g r a p.m, h) := by
  have hm := c.1.m14
  have := lp0 (fun F j => l_X0_standingBy_29 F g r (swX p g r a j) x5 x6 (nI j) h) p.m (some (swX p g r a p.m, h)) (by
    intro F j hj
    show b_X0_standingBy_29 (l_X0_standingBy_29 F) g r _ x5 x6 (nI j) h = l_X0_standingBy_29 F g r (swX p g r a j ||| (if bt r j = true ∧ p.pa j &&& (swX p g r a j ^^^ (-1)) = 0 then ((1 : Int32) <<< (nI (p.co j) &&& 31)) &&& (g ^^^ (-1)) else 0)) x5 x6 (nI (j + 1)) h
    have hb : inb (nI j) 14 = true := inb_nI (by omega) (by omega)
    unfold b_X0_standingBy_29
    rw [c.m, if_neg (nI_ge hj (by omega)), x_has _ (by omega), bd_some, if10, if_pos hb, if_pos hb, nI_cl (by omega), c.co hj, c.pa hj, nI_1]
    by_cases e : bt r j = true
    · rw [if_pos e]
      by_cases f : p.pa j &&& (swX p g r a j ^^^ (-1)) = 0
      · rw [if_pos f, if_pos ⟨e, f⟩]
      · rw [if_neg f, if_neg (fun z => f z.2)]
    · rw [if_neg e, if_neg (fun z => e z.1)]) (by
    intro F
    show b_X0_standingBy_29 (l_X0_standingBy_29 F) g r _ x5 x6 (nI p.m) h = _
    unfold b_X0_standingBy_29
    rw [c.m, if_pos (Int32.le_refl _)]) (by omega)
  rw [nI_0] at this
  exact this
def itX (p : PD) (g r a : Int32) : Nat → Int32
  | 0 => a
  | j + 1 => swX p g r (itX p g r a j) p.m
theorem x_rounds {h : AH} {p : PD} {s : SD} (c : XC h p s) (g r a : Int32) {t : Nat} (ht : t ≤ 10) (e : itX p g r a (t + 1) = itX p g r a t) (ne : ∀ i, i < t → ¬ itX p g r a (i + 1) = itX p g r a i) : l_X0_standingBy_20 FU g r a 1 0 h = some (itX p g r a t, h) := by
  have := lp0 (fun F j => l_X0_standingBy_20 F g r (itX p g r a j) (if j = t + 1 then 0 else 1) (nI j) h) (t + 1) (some (itX p g r a (t + 1), h)) (by
    intro F j hj
    show b_X0_standingBy_20 (l_X0_standingBy_20 F) g r _ _ (nI j) h = _
    unfold b_X0_standingBy_20
    rw [if_neg (show ¬ j = t + 1 by omega), if_neg i10, if_neg (show ¬ (10 : Int32) < nI j from fun z => by rw [show (10 : Int32) = nI 10 from rfl, nI_ltI (by omega) (by omega)] at z; omega), x_sweep c, bd_some]
    unfold c_X0_standingBy_72
    rw [nI_1]
    show (if itX p g r a (j + 1) = itX p g r a j then l_X0_standingBy_20 F g r (itX p g r a (j + 1)) 0 (nI (j + 1)) h else l_X0_standingBy_20 F g r (itX p g r a (j + 1)) 1 (nI (j + 1)) h) = _
    by_cases z : j = t
    · subst z
      rw [if_pos e, if_pos rfl]
    · rw [if_neg (ne j (by omega)), if_neg (by omega)]) (by
    intro F
    show b_X0_standingBy_20 (l_X0_standingBy_20 F) g r _ _ (nI (t + 1)) h = _
    unfold b_X0_standingBy_20
    rw [if_pos rfl, if_pos rfl]) (by omega)
  rw [nI_0, if_neg (by omega), e] at this
  exact this
theorem sub_swX {p : PD} (v : PV p) {g r a : Int32} (h : sub a p.n) : ∀ j, j ≤ p.m → sub (swX p g r a j) p.n
  | 0, _ => h
  | j + 1, hj => by
    have h1 := v.co10 (show j < p.m by omega)
    intro i hi
    have hi' : bt (swX p g r a j ||| (if bt r j = true ∧ p.pa j &&& (swX p g r a j ^^^ (-1)) = 0 then ((1 : Int32) <<< (nI (p.co j) &&& 31)) &&& (g ^^^ (-1)) else 0)) i = true := hi
    rw [bt_or, Bool.or_eq_true] at hi'
    rcases hi' with z | z
    · exact sub_swX v h j (by omega) i z
    · split at z
      · rw [bt_and, Bool.and_eq_true, bt_one (by omega)] at z
        rw [z.1]
        exact v.con (by omega)
      · rw [bt_0] at z; contradiction
/-- the class's standingBy is what stands -/
theorem x_standingBy {h : AH} {p : PD} {s : SD} (c : XC h p s) (g r : Int32) : f_X0_standingBy g r h = some (ST p (bt g) (bt r), h) := by
  have hn := c.1.n10
  unfold f_X0_standingBy
  rw [x_bits1 c, bd_some, x_bits2 c, bd_some]
  have hbase : ∀ i, bt ((EN p &&& (KB p 2 ^^^ (-1))) &&& (g ^^^ (-1))) i = true ↔ i < p.n ∧ p.ki i = 1 ∧ bt g i = false := by
    intro i
    rw [bt_and, bt_and, Bool.and_eq_true, Bool.and_eq_true, bt_not', bt_not', btEN c.1, bt_KB c.1]
    constructor
    · rintro ⟨⟨z1, z2, z3⟩, z4, z5⟩
      simp at z1 z3
      refine ⟨z1.1, ?_, z5⟩
      rcases z1.2 with y | y
      · exact y
      · exact absurd y (z3 z1.1)
    · rintro ⟨z1, z2, z3⟩
      refine ⟨⟨?_, by omega, ?_⟩, by omega, z3⟩
      · simp [z1, z2]
      · simp [z2]
  generalize hA : (EN p &&& (KB p 2 ^^^ (-1))) &&& (g ^^^ (-1)) = A at hbase
  have hsub : ∀ j, sub (itX p g r A j) p.n := by
    intro j
    induction j with
    | zero => exact fun i hi => ((hbase i).mp hi).1
    | succ j ih => exact sub_swX c.1 ih p.m (Nat.le_refl _)
  have hsnd : ∀ j, ∀ i, bt (itX p g r A j) i = true → Std p (bt g) (bt r) i := by
    intro j
    induction j with
    | zero => exact fun i hi => (Std.cls p (bt g) (bt r)).1 i ((hbase i).mp hi).1 ((hbase i).mp hi).2.1 ((hbase i).mp hi).2.2
    | succ j ih => exact swX_snd c.1 g r ih p.m (Nat.le_refl _)
  have hinc : ∀ j, inc A (itX p g r A j) := by
    intro j
    induction j with
    | zero => exact inc.rfl
    | succ j ih => exact ih.tr (swX_inc p g r _ p.m)
  obtain ⟨t, ht, e, ne⟩ := stab (itX p g r A) (n := p.n) (fun i => swX_inc p g r _ p.m) hsub
  rw [x_rounds c g r A (by omega) e ne, bd_some]
  unfold c_X0_standingBy_81
  rw [ST_eq c.1 (hsnd t) ⟨fun x h1 h2 h3 => hinc t x ((hbase x).mpr ⟨h1, h2, h3⟩), swX_cls c.1 g r e⟩]
