/-! ===== what can be reached ===== -/
def RCl (p : PD) (s : SD) (x : Nat) (S : Nat → Prop) : Prop := S x ∧ ∀ k, k < p.m → us p s k = true → S (p.co k) → ∀ y, bt (p.pa k) y = true → S y
def Rch (p : PD) (s : SD) (x y : Nat) : Prop := ∀ S, RCl p s x S → S y
noncomputable def RC (p : PD) (s : SD) (x : Nat) : Int32 := ms (fun y => @decide (Rch p s x y) (Classical.propDecidable _)) p.n
theorem Rch.cl (p : PD) (s : SD) (x : Nat) : RCl p s x (Rch p s x) := ⟨fun _ h => h.1, fun k a b c y hy S hS => hS.2 k a b (c S hS) y hy⟩
theorem PV.pan {p : PD} (v : PV p) {k : Nat} (h : k < p.m) : sub (p.pa k) p.n := (v.2.2.2.1 k h).2.2.2.1
theorem Rch.lt {p : PD} (v : PV p) {s : SD} {x y : Nat} (hx : x < p.n) (h : Rch p s x y) : y < p.n := h (fun x => x < p.n) ⟨hx, fun _ a _ _ y hy => v.pan a y hy⟩
theorem bt_RC {p : PD} (v : PV p) {s : SD} {x : Nat} (hx : x < p.n) (y : Nat) : bt (RC p s x) y = true ↔ Rch p s x y := by
  have hn := v.n10
  rw [RC, bt_ms _ _ (by omega), Bool.and_eq_true, decide_eq_true_eq]
  constructor
  · rintro ⟨-, h⟩
    exact @of_decide_eq_true _ (Classical.propDecidable _) h
  · intro h
    exact ⟨h.lt v hx, @decide_eq_true _ (Classical.propDecidable _) h⟩
theorem RC_eq {p : PD} (v : PV p) {s : SD} {x : Nat} (hx : x < p.n) {a : Int32} (hs : ∀ i, bt a i = true → Rch p s x i) (hc : RCl p s x (fun i => bt a i = true)) : a = RC p s x :=
  inc.eq (fun i hi => (bt_RC v hx i).mpr (hs i hi)) (fun i hi => (bt_RC v hx i).mp hi _ hc)
/-! the class -/
def swR (p : PD) (s : SD) (a : Int32) : Nat → Int32
  | 0 => a
  | j + 1 => swR p s a j ||| (if bt (swR p s a j) (p.co j) = true ∧ us p s j = true then p.pa j else 0)
theorem swR_inc (p : PD) (s : SD) (a : Int32) : ∀ j, inc a (swR p s a j)
  | 0 => inc.rfl
  | j + 1 => (swR_inc p s a j).tr (inc_or _ _)
theorem swR_inc2 (p : PD) (s : SD) (a : Int32) (j : Nat) : ∀ d, inc (swR p s a j) (swR p s a (j + d))
  | 0 => inc.rfl
  | d + 1 => (swR_inc2 p s a j d).tr (inc_or _ _)
theorem swR_snd {p : PD} {s : SD} {x : Nat} {a : Int32} (h : ∀ i, bt a i = true → Rch p s x i) : ∀ j, j ≤ p.m → ∀ i, bt (swR p s a j) i = true → Rch p s x i
  | 0, _, i, hi => h i hi
  | j + 1, hj, i, hi => by
    have ih := swR_snd h j (by omega)
    have hi' : bt (swR p s a j ||| (if bt (swR p s a j) (p.co j) = true ∧ us p s j = true then p.pa j else 0)) i = true := hi
    rw [bt_or, Bool.or_eq_true] at hi'
    rcases hi' with z | z
    · exact ih i z
    · split at z
      · rename_i q
        exact (Rch.cl p s x).2 j (by omega) q.2 (ih _ q.1) i z
      · rw [bt_0] at z; contradiction
theorem swR_cls {p : PD} {s : SD} {a : Int32} (h : swR p s a p.m = a) : ∀ k, k < p.m → us p s k = true → bt a (p.co k) = true → ∀ y, bt (p.pa k) y = true → bt a y = true := by
  intro k hk h1 h2 y hy
  have e2 : inc (swR p s a (k + 1)) a := by
    have := swR_inc2 p s a (k + 1) (p.m - (k + 1))
    rw [show k + 1 + (p.m - (k + 1)) = p.m by omega, h] at this
    exact this
  apply e2
  show bt (swR p s a k ||| _) y = true
  rw [if_pos ⟨swR_inc p s a k _ h2, h1⟩, bt_or, hy, Bool.or_true]
theorem x_sweepR {h : AH} {p : PD} {s : SD} (c : XC h p s) (a x4 x5 : Int32) : l_X0_reachOf_17 FU a x4 x5 0 h = some (swR p s a p.m, h) := by
  have hm := c.1.m14
  have := lp0 (fun F j => l_X0_reachOf_17 F (swR p s a j) x4 x5 (nI j) h) p.m (some (swR p s a p.m, h)) (by
    intro F j hj
    show b_X0_reachOf_17 (l_X0_reachOf_17 F) _ x4 x5 (nI j) h = l_X0_reachOf_17 F (swR p s a j ||| (if bt (swR p s a j) (p.co j) = true ∧ us p s j = true then p.pa j else 0)) x4 x5 (nI (j + 1)) h
    have hb : inb (nI j) 14 = true := inb_nI (by omega) (by omega)
    have h10 := c.1.co10 hj
    unfold b_X0_reachOf_17
    rw [c.m, if_neg (nI_ge hj (by omega)), if_pos hb, nI_cl (by omega), c.co hj, x_has _ (by omega), bd_some, if10, x_isUsable c hj, bd_some, if10, if_pos hb, c.pa hj, nI_1]
    by_cases e : bt (swR p s a j) (p.co j) = true
    · rw [if_pos e]
      by_cases f : us p s j = true
      · rw [if_pos f, if_pos ⟨e, f⟩]
      · rw [if_neg f, if_neg (fun z => f z.2)]
    · rw [if_neg e, if_neg (fun z => e z.1)]) (by
    intro F
    show b_X0_reachOf_17 (l_X0_reachOf_17 F) _ x4 x5 (nI p.m) h = _
    unfold b_X0_reachOf_17
    rw [c.m, if_pos (Int32.le_refl _)]) (by omega)
  rw [nI_0] at this
  exact this
def itR (p : PD) (s : SD) (a : Int32) : Nat → Int32
  | 0 => a
  | j + 1 => swR p s (itR p s a j) p.m
theorem x_roundsR {h : AH} {p : PD} {s : SD} (c : XC h p s) (a : Int32) {t : Nat} (ht : t ≤ 10) (e : itR p s a (t + 1) = itR p s a t) (ne : ∀ i, i < t → ¬ itR p s a (i + 1) = itR p s a i) : l_X0_reachOf_8 FU a 1 0 h = some (itR p s a t, h) := by
  have := lp0 (fun F j => l_X0_reachOf_8 F (itR p s a j) (if j = t + 1 then 0 else 1) (nI j) h) (t + 1) (some (itR p s a (t + 1), h)) (by
    intro F j hj
    show b_X0_reachOf_8 (l_X0_reachOf_8 F) _ _ (nI j) h = _
    unfold b_X0_reachOf_8
    rw [if_neg (show ¬ j = t + 1 by omega), if_neg i10, if_neg (show ¬ (10 : Int32) < nI j from fun z => by rw [show (10 : Int32) = nI 10 from rfl, nI_ltI (by omega) (by omega)] at z; omega), x_sweepR c, bd_some]
    unfold c_X0_reachOf_46
    rw [nI_1]
    show (if itR p s a (j + 1) = itR p s a j then l_X0_reachOf_8 F (itR p s a (j + 1)) 0 (nI (j + 1)) h else l_X0_reachOf_8 F (itR p s a (j + 1)) 1 (nI (j + 1)) h) = _
    by_cases z : j = t
    · subst z
      rw [if_pos e, if_pos rfl]
    · rw [if_neg (ne j (by omega)), if_neg (by omega)]) (by
    intro F
    show b_X0_reachOf_8 (l_X0_reachOf_8 F) _ _ (nI (t + 1)) h = _
    unfold b_X0_reachOf_8
    rw [if_pos rfl, if_pos rfl]) (by omega)
  rw [nI_0, if_neg (by omega), e] at this
  exact this
theorem x_reach {h : AH} {p : PD} {s : SD} (c : XC h p s) {x : Nat} (hx : x < p.n) : f_X0_reachOf (nI x) h = some (RC p s x, h) := by
  have hn := c.1.n10
  unfold f_X0_reachOf
  have hbase : ∀ i, bt ((1 : Int32) <<< (nI x &&& 31)) i = true ↔ i = x := fun i => bt_one (by omega)
  generalize (1 : Int32) <<< (nI x &&& 31) = A at hbase
  have hsnd : ∀ j, ∀ i, bt (itR p s A j) i = true → Rch p s x i := by
    intro j
    induction j with
    | zero => intro i hi; rw [(hbase i).mp hi]; exact (Rch.cl p s x).1
    | succ j ih => exact swR_snd ih p.m (Nat.le_refl _)
  have hinc : ∀ j, inc A (itR p s A j) := by
    intro j
    induction j with
    | zero => exact inc.rfl
    | succ j ih => exact ih.tr (swR_inc p s _ p.m)
  obtain ⟨t, ht, e, ne⟩ := stab (itR p s A) (n := p.n) (fun i => swR_inc p s _ p.m) (fun j i hi => (hsnd j i hi).lt c.1 hx)
  rw [x_roundsR c A (by omega) e ne, bd_some]
  unfold c_X0_reachOf_55
  rw [RC_eq c.1 hx (hsnd t) ⟨hinc t x ((hbase x).mpr rfl), swR_cls e⟩]
