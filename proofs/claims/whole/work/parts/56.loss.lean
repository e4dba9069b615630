/-! ===== where one can be brought to a loss ===== -/
def bdk (p : PD) (s : SD) (L : Int32) (x k : Nat) : Bool := decide (p.co k = x) && (us p s k && decide (p.pa k &&& L = 0))
def FI (p : PD) (s : SD) (L : Int32) (x : Nat) : Bool := !isE p x && !anyN (bdk p s L x) p.m
def fo (p : PD) (s : SD) (L : Int32) : Int32 := ms (FI p s L) p.n
def ls (p : PD) (s : SD) : Nat → Int32
  | 0 => LSt p s
  | r + 1 => ls p s r ||| (fo p s (ls p s r) &&& (ls p s r ^^^ (-1)))
def nw (p : PD) (s : SD) (r : Nat) : Int32 := fo p s (ls p s r) &&& (ls p s r ^^^ (-1))
def lv (p : PD) (s : SD) : Nat → Nat → Int32
  | 0, x => if bt (LSt p s) x = true then 0 else -9
  | r + 1, x => if bt (nw p s r) x = true then nI (r + 1) else lv p s r x
theorem ls_s (p : PD) (s : SD) (r : Nat) : ls p s (r + 1) = ls p s r ||| nw p s r := rfl
theorem sub_fo {p : PD} (v : PV p) (s : SD) (L : Int32) : sub (fo p s L) p.n := sub_ms _ _ (by have := v.n10; omega)
theorem sub_ls {p : PD} (v : PV p) (s : SD) : ∀ r, sub (ls p s r) p.n
  | 0 => sub_ms _ _ (by have := v.n10; omega)
  | r + 1 => sub_or (sub_ls v s r) (sub_and (sub_fo v s _))
theorem lv_9 (p : PD) (s : SD) (x : Nat) : ∀ r, r < 1000 → (lv p s r x = -9 ↔ bt (ls p s r) x = false)
  | 0, _ => by
    show (if bt (LSt p s) x = true then (0 : Int32) else -9) = -9 ↔ bt (LSt p s) x = false
    cases bt (LSt p s) x <;> decide
  | r + 1, h => by
    show (if bt (nw p s r) x = true then nI (r + 1) else lv p s r x) = -9 ↔ bt (ls p s r ||| nw p s r) x = false
    rw [bt_or]
    cases e : bt (nw p s r) x
    · rw [if_neg (by decide), Bool.or_false]; exact lv_9 p s x r (by omega)
    · rw [if_pos rfl, Bool.or_true]
      exact ⟨fun z => absurd z (nI_n9 (by omega)), fun z => by contradiction⟩
theorem nw0 {p : PD} {s : SD} {r : Nat} : nw p s r = 0 ↔ ls p s (r + 1) = ls p s r := by
  constructor
  · intro h
    rw [ls_s, h]
    exact bt_ext (fun i _ => by rw [bt_or, bt_0, Bool.or_false])
  · intro h
    rw [bt_eq0]
    intro i hi
    cases e : bt (nw p s r) i
    · rfl
    · have h1 : bt (ls p s (r + 1)) i = true := by rw [ls_s, bt_or, e, Bool.or_true]
      rw [h] at h1
      unfold nw at e
      rw [bt_and, bt_not _ hi, h1, Bool.not_true, Bool.and_false] at e
      contradiction
theorem ls_st {p : PD} {s : SD} {t : Nat} (h : ls p s (t + 1) = ls p s t) : ∀ d, ls p s (t + d) = ls p s t ∧ ∀ x, lv p s (t + d) x = lv p s t x
  | 0 => ⟨rfl, fun _ => rfl⟩
  | d + 1 => by
    obtain ⟨a, b⟩ := ls_st h d
    have h0 := nw0.mpr h
    have hw : nw p s (t + d) = 0 := by
      unfold nw at h0 ⊢
      rw [a]; exact h0
    refine ⟨?_, fun x => ?_⟩
    · show ls p s (t + d + 1) = _
      rw [nw0.mp hw, a]
    · show (if bt (nw p s (t + d)) x = true then nI (t + d + 1) else lv p s (t + d) x) = _
      rw [hw, bt_0, if_neg (by decide), b]
theorem ls_end {p : PD} {s : SD} {t : Nat} (h : ls p s (t + 1) = ls p s t) {a b : Nat} (ha : t ≤ a) (hb : t ≤ b) : ls p s a = ls p s b ∧ ∀ x, lv p s a x = lv p s b x := by
  obtain ⟨d, rfl⟩ := Nat.exists_eq_add_of_le ha
  obtain ⟨e, rfl⟩ := Nat.exists_eq_add_of_le hb
  exact ⟨((ls_st h d).1).trans ((ls_st h e).1).symm, fun x => ((ls_st h d).2 x).trans ((ls_st h e).2 x).symm⟩
def fA (p : PD) (s : SD) (L a : Int32) : Nat → Int32
  | 0 => a
  | j + 1 => fA p s L a j &&& (if us p s j = true ∧ p.pa j &&& L = 0 then ((1 : Int32) <<< (nI (p.co j) &&& 31)) ^^^ (-1) else -1)
theorem bt_fA {p : PD} (v : PV p) (s : SD) (L a : Int32) : ∀ j, j ≤ p.m → ∀ i, i < 32 → (bt (fA p s L a j) i = true ↔ bt a i = true ∧ ∀ k, k < j → bdk p s L i k = false)
  | 0, _, i, _ => ⟨fun h => ⟨h, fun k z => by omega⟩, fun h => h.1⟩
  | j + 1, hj, i, hi => by
    have h10 := v.co10 (show j < p.m by omega)
    show bt (fA p s L a j &&& _) i = true ↔ _
    rw [bt_and, Bool.and_eq_true, bt_fA v s L a j (by omega) i hi]
    have hq : bt (if us p s j = true ∧ p.pa j &&& L = 0 then ((1 : Int32) <<< (nI (p.co j) &&& 31)) ^^^ (-1) else -1) i = true ↔ bdk p s L i j = false := by
      unfold bdk
      by_cases e : us p s j = true
      · by_cases f : p.pa j &&& L = 0
        · rw [if_pos ⟨e, f⟩, bt_not _ hi, bt_sl _ (by omega) _ hi, e, decide_eq_true f]
          by_cases g : i = p.co j
          · simp [g]
          · rw [decide_eq_false g, decide_eq_false (fun z => g z.symm)]; simp
        · rw [if_neg (fun z => f z.2), bt_m1 i hi, decide_eq_false f]; simp
      · rw [if_neg (fun z => e z.1), bt_m1 i hi]; simp [e]
    rw [hq]
    constructor
    · rintro ⟨⟨a1, a2⟩, a3⟩
      refine ⟨a1, fun k z => ?_⟩
      by_cases e : k = j
      · rw [e]; exact a3
      · exact a2 k (by omega)
    · rintro ⟨a1, a2⟩
      exact ⟨⟨a1, fun k z => a2 k (by omega)⟩, a2 j (by omega)⟩
theorem x_forced {h : AH} {p : PD} {s : SD} (c : XC h p s) (L : Int32) : f_X1_forcedInto L h = some (fo p s L, h) := by
  have hn := c.1.n10
  have hm := c.1.m14
  unfold f_X1_forcedInto
  rw [x_all c, bd_some, x_bits1 c, bd_some]
  have := lp0 (fun F j => l_X1_forcedInto_13 F L (fA p s L (AL p.n &&& (EN p ^^^ (-1))) j) (nI j) h) p.m (some (fA p s L (AL p.n &&& (EN p ^^^ (-1))) p.m, h)) (by
    intro F j hj
    show b_X1_forcedInto_13 (l_X1_forcedInto_13 F) L _ (nI j) h = l_X1_forcedInto_13 F L (fA p s L (AL p.n &&& (EN p ^^^ (-1))) j &&& (if us p s j = true ∧ p.pa j &&& L = 0 then ((1 : Int32) <<< (nI (p.co j) &&& 31)) ^^^ (-1) else -1)) (nI (j + 1)) h
    have hb : inb (nI j) 14 = true := inb_nI (by omega) (by omega)
    unfold b_X1_forcedInto_13
    rw [c.m, if_neg (nI_ge hj (by omega)), x_isUsable c hj, bd_some, if10, if_pos hb, if_pos hb, nI_cl (by omega), c.co hj, c.pa hj, nI_1]
    by_cases e : us p s j = true
    · rw [if_pos e]
      by_cases f : p.pa j &&& L = 0
      · rw [if_pos f, if_pos ⟨e, f⟩]
      · rw [if_neg f, if_neg (fun z => f z.2)]
    · rw [if_neg e, if_neg (fun z => e z.1)]) (by
    intro F
    show b_X1_forcedInto_13 (l_X1_forcedInto_13 F) L _ (nI p.m) h = _
    unfold b_X1_forcedInto_13
    rw [c.m, if_pos (Int32.le_refl _)]) (by omega)
  rw [nI_0] at this
  show bd (l_X1_forcedInto_13 FU L (fA p s L (AL p.n &&& (EN p ^^^ (-1))) 0) 0 h) _ = _
  rw [this, bd_some]
  unfold c_X1_forcedInto_53
  congr 2
  apply bt_ext
  intro i hi
  rw [Bool.eq_iff_iff, bt_fA c.1 s L _ p.m (Nat.le_refl _) i hi, fo, bt_ms _ _ (by omega), bt_and, bt_not _ hi, btEN c.1, bt_AL (by omega) hi, Bool.and_eq_true, Bool.and_eq_true, FI, Bool.and_eq_true, Bool.not_eq_true', Bool.not_eq_true', Bool.not_eq_true', anyN_f]
  constructor
  · rintro ⟨⟨a1, a2⟩, a3⟩
    rw [a1, Bool.true_and] at a2
    exact ⟨a1, a2, a3⟩
  · rintro ⟨a1, a2, a3⟩
    refine ⟨⟨a1, ?_⟩, a3⟩
    rw [a1, Bool.true_and]; exact a2
theorem x_los6 {h : AH} {p : PD} {s : SD} (c : XC h p s) : l_X1_losingBits_6 FU (LSt p s) 0 h = some ((), hfl h 25 0 0 p.n (lv p s 0)) := by
  have hn := c.1.n10
  have := lp0 (fun F j => l_X1_losingBits_6 F (LSt p s) (nI j) (hfl h 25 0 0 j (lv p s 0))) p.n (some ((), hfl h 25 0 0 p.n (lv p s 0))) (by
    intro F j hj
    show b_X1_losingBits_6 (l_X1_losingBits_6 F) (LSt p s) (nI j) (hfl h 25 0 0 j (lv p s 0)) = l_X1_losingBits_6 F (LSt p s) (nI (j + 1)) (hfl h 25 0 0 (j + 1) (lv p s 0))
    have hb : inb (nI j) 10 = true := inb_nI (by omega) (by omega)
    rw [← hfl_s0]
    unfold b_X1_losingBits_6
    rw [hfl_k (a := 12) (by decide), c.n, if_neg (nI_ge hj (by omega)), x_has _ (by omega), bd_some, if10, if_pos hb, if_pos hb, nI_cl (by omega), nI_1]
    show _ = l_X1_losingBits_6 F (LSt p s) (nI (j + 1)) (hsI _ 25 0 j (if bt (LSt p s) j = true then 0 else -9))
    by_cases e : bt (LSt p s) j = true
    · rw [if_pos e, if_pos e]
    · rw [if_neg e, if_neg e]) (by
    intro F
    show b_X1_losingBits_6 (l_X1_losingBits_6 F) (LSt p s) (nI p.n) _ = _
    unfold b_X1_losingBits_6
    rw [hfl_k (a := 12) (by decide), c.n, if_pos (Int32.le_refl _)]) (by omega)
  simp only [nI_0, hfl_0] at this
  exact this
theorem x_los43 {h : AH} {p : PD} {s : SD} (c : XC h p s) {r : Nat} (a : Int32) (hv : ∀ x, x < p.n → h.1 25 0 x = lv p s r x) : l_X1_losingBits_43 FU a (nI (r + 1)) (nw p s r) 0 h = some ((), hfl h 25 0 0 p.n (lv p s (r + 1))) := by
  have hn := c.1.n10
  have := lp0 (fun F j => l_X1_losingBits_43 F a (nI (r + 1)) (nw p s r) (nI j) (hfl h 25 0 0 j (lv p s (r + 1)))) p.n (some ((), hfl h 25 0 0 p.n (lv p s (r + 1)))) (by
    intro F j hj
    show b_X1_losingBits_43 (l_X1_losingBits_43 F) a _ _ (nI j) (hfl h 25 0 0 j (lv p s (r + 1))) = l_X1_losingBits_43 F a _ _ (nI (j + 1)) (hfl h 25 0 0 (j + 1) (lv p s (r + 1)))
    have hb : inb (nI j) 10 = true := inb_nI (by omega) (by omega)
    rw [← hfl_s0]
    unfold b_X1_losingBits_43
    rw [hfl_k (a := 12) (by decide), c.n, if_neg (nI_ge hj (by omega)), x_has _ (by omega), bd_some, if10, if_pos hb, if_pos hb, if_pos hb, nI_cl (by omega), nI_1]
    show _ = l_X1_losingBits_43 F a _ _ (nI (j + 1)) (hsI _ 25 0 j (if bt (nw p s r) j = true then nI (r + 1) else lv p s r j))
    by_cases e : bt (nw p s r) j = true
    · rw [if_pos e, if_pos e]
    · rw [if_neg e, if_neg e, hfl_1, if_neg (by omega), hv j hj]) (by
    intro F
    show b_X1_losingBits_43 (l_X1_losingBits_43 F) a _ _ (nI p.n) _ = _
    unfold b_X1_losingBits_43
    rw [hfl_k (a := 12) (by decide), c.n, if_pos (Int32.le_refl _)]) (by omega)
  simp only [nI_0, hfl_0] at this
  exact this
theorem x_losing {h : AH} {p : PD} {s : SD} (c : XC h p s) : ∃ h2, f_X1_losingBits h = some (ls p s p.n, h2) ∧ SX h h2 ∧ ∀ x, x < p.n → h2.1 25 0 x = lv p s p.n x := by
  have hn := c.1.n10
  unfold f_X1_losingBits
  rw [x_lossBits c, bd_some, x_los6 c, bd_some]
  unfold c_X1_losingBits_24
  obtain ⟨t, ht, e, ne⟩ := stab (ls p s) (n := p.n) (fun i => inc_or _ _) (sub_ls c.1 s)
  have := lpi (fun F (q : Int32 × Int32 × Int32 × AH) => l_X1_losingBits_28 F q.1 q.2.1 q.2.2.1 q.2.2.2) (t + 1)
    (fun j q => q.1 = ls p s j ∧ q.2.1 = (if j = t + 1 then 0 else 1) ∧ q.2.2.1 = nI (j + 1) ∧ SX h q.2.2.2 ∧ ∀ x, x < p.n → q.2.2.2.1 25 0 x = lv p s j x)
    (fun o => ∃ h2, o = some (ls p s p.n, h2) ∧ SX h h2 ∧ ∀ x, x < p.n → h2.1 25 0 x = lv p s p.n x) (by
    rintro F j ⟨a, g, r, k⟩ hj ⟨q1, q2, q3, q4, q5⟩
    simp only at q1 q2 q3 q4 q5
    subst q1 q2 q3
    have ck := c.fr q4.k
    show (∃ h2, b_X1_losingBits_28 (l_X1_losingBits_28 F) _ _ _ k = _ ∧ _) ∨ ∃ t2 : Int32 × Int32 × Int32 × AH, _ ∧ b_X1_losingBits_28 (l_X1_losingBits_28 F) _ _ _ k = l_X1_losingBits_28 F t2.1 t2.2.1 t2.2.2.1 t2.2.2.2
    unfold b_X1_losingBits_28
    rw [if_neg (show ¬ j = t + 1 by omega), if_neg i10]
    by_cases h10 : 10 < j + 1
    · left
      have hx := ls_end e (show t ≤ j by omega) ht
      rw [if_pos (show (10 : Int32) < nI (j + 1) from (nI_ltI (a := 10) (by omega) (by omega)).mpr h10)]
      exact ⟨k, by rw [hx.1], q4, fun x hx2 => by rw [q5 x hx2, hx.2]⟩
    · right
      rw [if_neg (show ¬ (10 : Int32) < nI (j + 1) from fun z => h10 ((nI_ltI (a := 10) (by omega) (by omega)).mp z)), x_forced ck, bd_some]
      show ∃ t2 : Int32 × Int32 × Int32 × AH, _ ∧ bd (l_X1_losingBits_43 FU (ls p s j) (nI (j + 1)) (nw p s j) 0 k) (fun v h => c_X1_losingBits_64 (l_X1_losingBits_28 F) (ls p s j) (nI (j + 1)) (nw p s j) h) = _
      rw [x_los43 ck _ q5, bd_some]
      refine ⟨(ls p s (j + 1), if j + 1 = t + 1 then 0 else 1, nI (j + 1 + 1), hfl k 25 0 0 p.n (lv p s (j + 1))), ⟨rfl, rfl, rfl, q4.fl (by omega), fun x hx => ?_⟩, ?_⟩
      · show (hfl k 25 0 0 p.n (lv p s (j + 1))).1 25 0 x = _
        rw [hfl_1, if_pos (by omega)]; rfl
      · unfold c_X1_losingBits_64
        rw [nI_1]
        show (if nw p s j = 0 then l_X1_losingBits_28 F (ls p s (j + 1)) 0 (nI (j + 1 + 1)) _ else l_X1_losingBits_28 F (ls p s (j + 1)) 1 (nI (j + 1 + 1)) _) = l_X1_losingBits_28 F (ls p s (j + 1)) (if j + 1 = t + 1 then 0 else 1) (nI (j + 1 + 1)) _
        by_cases z : j = t
        · subst z
          rw [if_pos (nw0.mpr e), if_pos rfl]
        · rw [if_neg (fun y => ne j (by omega) (nw0.mp y)), if_neg (by omega)]) (by
    rintro F ⟨a, g, r, k⟩ ⟨q1, q2, q3, q4, q5⟩
    simp only at q1 q2 q3 q4 q5
    subst q1 q2 q3
    show ∃ h2, b_X1_losingBits_28 (l_X1_losingBits_28 F) (ls p s (t + 1)) (if True then 0 else 1) (nI (t + 1 + 1)) k = _ ∧ _
    unfold b_X1_losingBits_28
    have hx := ls_end e (show t ≤ t + 1 by omega) ht
    rw [if_pos trivial, if_pos rfl]
    exact ⟨k, by rw [hx.1], q4, fun x hx2 => by rw [q5 x hx2, hx.2]⟩) (by omega) (LSt p s, 1, 1, hfl h 25 0 0 p.n (lv p s 0)) ⟨rfl, by rw [if_neg (by omega)], rfl, SX.rfl.fl (by omega), fun x hx => by
      show (hfl h 25 0 0 p.n (lv p s 0)).1 25 0 x = _
      rw [hfl_1, if_pos (by omega)]; rfl⟩
  obtain ⟨h2, a, b⟩ := this
  refine ⟨h2, ?_, b⟩
  show bd (l_X1_losingBits_28 FU (LSt p s) 1 1 (hfl h 25 0 0 p.n (lv p s 0))) _ = _
  have a' : l_X1_losingBits_28 FU (LSt p s) 1 1 (hfl h 25 0 0 p.n (lv p s 0)) = some (ls p s p.n, h2) := a
  rw [a']
  rfl
