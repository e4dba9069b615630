/-! ===== the class's least ways ===== -/
def e1 (c : Nat) : Int32 := if c < 1000000 then nI c else -9
theorem e1_9 {c : Nat} (h : c < 100000 ∨ 1000000 ≤ c) : e1 c = -9 ↔ ¬ c < 1000000 := by
  unfold e1
  by_cases e : c < 1000000
  · rw [if_pos e]
    exact ⟨fun z => absurd z (nI_n9 (by omega)), fun z => absurd e z⟩
  · rw [if_neg e]
    exact ⟨fun _ => e, fun _ => rfl⟩
theorem Jc0 {p : PD} (v : PV p) (s : SD) (me : Nat) {y : Nat} (hy : y < p.n) : nI (Jc p s me 0 y) = if bt (SN p s &&& EN p) y = true then 0 else 1000000 := by
  show nI (if p.ki y = 1 ∧ bt (SN p s) y = true then 0 else 1000000) = _
  rw [bt_and, btEN v, decide_eq_true hy, Bool.true_and]
  by_cases e : bt (SN p s) y = true
  · have h2 := SN_2 v e
    rw [e, Bool.true_and, decide_eq_false h2, Bool.or_false]
    by_cases f : p.ki y = 1
    · rw [if_pos ⟨f, rfl⟩, if_pos (decide_eq_true f)]; rfl
    · rw [if_neg (fun z => f z.1), if_neg (by rw [decide_eq_false f]; decide)]; rfl
  · rw [if_neg (fun z => e z.2), if_neg (by rw [Bool.and_eq_true]; exact fun z => e z.1)]; rfl
theorem x_lf6 {h : AH} {p : PD} {s : SD} (c : XC h p s) (x1 x2 : Int32) (me : Nat) : l_X10_leastFrom_6 FU x1 x2 (SN p s) 0 h = some ((), hfl h 21 0 0 p.n (fun y => nI (Jc p s me 0 y))) := by
  have hn := c.1.n10
  have := lp0 (fun F j => l_X10_leastFrom_6 F x1 x2 (SN p s) (nI j) (hfl h 21 0 0 j (fun y => nI (Jc p s me 0 y)))) p.n (some ((), hfl h 21 0 0 p.n (fun y => nI (Jc p s me 0 y)))) (by
    intro F j hj
    show b_X10_leastFrom_6 (l_X10_leastFrom_6 F) x1 x2 (SN p s) (nI j) (hfl h 21 0 0 j (fun y => nI (Jc p s me 0 y))) = l_X10_leastFrom_6 F x1 x2 (SN p s) (nI (j + 1)) (hfl h 21 0 0 (j + 1) (fun y => nI (Jc p s me 0 y)))
    have hb : inb (nI j) 10 = true := inb_nI (by omega) (by omega)
    have ck : XC (hfl h 21 0 0 j (fun y => nI (Jc p s me 0 y))) p s := c.fr (SX.rfl.fl (by omega)).k
    rw [← hfl_s0]
    unfold b_X10_leastFrom_6
    simp only [Jc0 c.1 s me hj]
    rw [ck.n, if_neg (nI_ge hj (by omega)), x_bits1 ck, bd_some, x_has _ (by omega), bd_some, if10, if_pos hb, if_pos hb, nI_cl (by omega), nI_1]
    by_cases e : bt (SN p s &&& EN p) j = true
    · rw [if_pos e, if_pos e]
    · rw [if_neg e, if_neg e]) (by
    intro F
    show b_X10_leastFrom_6 (l_X10_leastFrom_6 F) x1 x2 _ (nI p.n) _ = _
    unfold b_X10_leastFrom_6
    rw [hfl_k (a := 12) (by decide), c.n, if_pos (Int32.le_refl _)]) (by omega)
  simp only [nI_0, hfl_0] at this
  exact this
theorem x_least {h : AH} {p : PD} {s : SD} (c : XC h p s) {me : Nat} (hme : me ≤ 2) {x : Nat} (hx : x < p.n) : ∃ h2, f_X10_leastFrom (nI x) (nI me) h = some (e1 (JE p s me x), h2) ∧ SX h h2 ∧ CX h2 p (JE p s me) := by
  have hn := c.1.n10
  unfold f_X10_leastFrom
  rw [x_standing c, bd_some, x_lf6 c _ _ me, bd_some]
  unfold c_X10_leastFrom_29
  have s0 : SX h (hfl h 21 0 0 p.n (fun y => nI (Jc p s me 0 y))) := SX.rfl.fl (by omega)
  have := lpi (fun F (q : Int32 × Int32 × AH) => l_X10_leastFrom_33 F (nI x) (nI me) (SN p s) q.1 q.2.1 q.2.2) 11
    (fun j q => q.2.1 = nI j ∧ (q.1 = 0 ∨ q.1 = 1) ∧ SX h q.2.2 ∧ ∃ d : Nat → Nat, CX q.2.2 p d ∧ (∀ y, y < p.n → JE p s me y ≤ d y) ∧ (∀ y, y < p.n → d y ≤ Jc p s me j y) ∧ (q.1 = 0 → ∀ y, y < p.n → d y = JE p s me y))
    (fun o => ∃ h2, o = some ((), h2) ∧ SX h h2 ∧ CX h2 p (JE p s me)) (by
    rintro F j ⟨f, i, g⟩ hj ⟨q1, q2, q3, d, q4, q5, q6, q7⟩
    simp only at q1 q2 q3 q4 q7
    subst q1
    have ck := c.fr q3.k
    show (∃ h2, b_X10_leastFrom_33 (l_X10_leastFrom_33 F) (nI x) (nI me) (SN p s) f (nI j) g = _ ∧ _) ∨ ∃ t2 : Int32 × Int32 × AH, _ ∧ b_X10_leastFrom_33 (l_X10_leastFrom_33 F) (nI x) (nI me) (SN p s) f (nI j) g = l_X10_leastFrom_33 F (nI x) (nI me) (SN p s) t2.1 t2.2.1 t2.2.2
    unfold b_X10_leastFrom_33
    by_cases f0 : f = 0
    · left
      rw [if_pos f0]
      exact ⟨g, rfl, q3, fun y hy => by rw [← q7 f0 y hy]; exact q4 y hy⟩
    · right
      obtain ⟨f2, g2, d2, r1, r2, r3, r4, r5, r6, r7⟩ := x_relax ck q4 hme q5
      rw [if_neg f0, if_neg (show ¬ (10 : Int32) < nI j from fun z => by have := (nI_ltI (a := 10) (b := j) (by omega) (by omega)).mp z; omega), r1, bd_some, nI_1]
      have up : ∀ y, y < p.n → d2 y ≤ Jc p s me (j + 1) y := fun y hy => Nat.le_trans (r6 y hy) (red_mono q6 hy p.m)
      refine ⟨(f2, nI (j + 1), g2), ⟨rfl, r2, q3.tr r3, d2, r4, r5, up, fun z y hy => ?_⟩, rfl⟩
      have hq := r7 z
      refine Nat.le_antisymm ?_ (r5 y hy)
      refine Jc_low (fun w hw => ?_) (fun k hk hu => ?_) p.n y hy
      · have := Jc_dns p s me 0 w (j + 1)
        rw [Nat.zero_add] at this
        exact Nat.le_trans (up w hw) this
      · have h1 := r6 (p.co k) (c.1.con hk)
        have h2 := red_lef (p := p) (s := s) (me := me) (c := d) rfl hu p.m hk
        have h3 : fk p s me k d = fk p s me k d2 := fk_congr (fun w hw _ => (hq w hw).symm)
        omega) (by
    rintro F ⟨f, i, g⟩ ⟨q1, q2, q3, d, q4, q5, q6, q7⟩
    simp only at q1 q2 q3 q4 q7
    subst q1
    show ∃ h2, b_X10_leastFrom_33 (l_X10_leastFrom_33 F) (nI x) (nI me) (SN p s) f (nI 11) g = _ ∧ _
    unfold b_X10_leastFrom_33
    rw [if_pos (show (10 : Int32) < nI 11 by decide)]
    refine ⟨g, by split <;> rfl, q3, fun y hy => ?_⟩
    have h1 := q5 y hy
    have h2 := q6 y hy
    rw [JE_ge p s me (by omega) hy] at h2
    rw [show JE p s me y = d y by omega]
    exact q4 y hy) (by omega) (1, 0, hfl h 21 0 0 p.n (fun y => nI (Jc p s me 0 y))) ⟨rfl, Or.inr rfl, s0, Jc p s me 0, fun y hy => ⟨by
      show (hfl h 21 0 0 p.n (fun y => nI (Jc p s me 0 y))).1 21 0 y = _
      rw [hfl_1, if_pos (by omega)]; rfl, Jc_far p s me y 0⟩, fun y hy => JE_le s me hy 0, fun y _ => Nat.le_refl _, fun z => absurd z i10⟩
  obtain ⟨h2, a, b, d⟩ := this
  have a' : l_X10_leastFrom_33 FU (nI x) (nI me) (SN p s) 1 0 (hfl h 21 0 0 p.n (fun y => nI (Jc p s me 0 y))) = some ((), h2) := a
  refine ⟨h2, ?_, b, d⟩
  rw [a', bd_some]
  unfold c_X10_leastFrom_45
  rw [x_has _ (by omega), bd_some, if10, if_pos (inb_nI (n := 10) (by omega) (by omega)), nI_cl (by omega), (d x hx).1]
  unfold e1
  by_cases e : bt (SN p s) x = true
  · rw [if_pos e, if_pos ((JE_std c.1 hx).mpr e)]
  · rw [if_neg e, if_neg (fun z => e ((JE_std c.1 hx).mp z))]
/-- the reasons of least cost -/
noncomputable def flk (p : PD) (s : SD) (me x k : Nat) : Bool := decide (p.co k = x) && (us p s k && decide (fk p s me k (JE p s me) = JE p s me x))
theorem x_firstL {h : AH} {p : PD} {s : SD} (c : XC h p s) {me : Nat} (hme : me ≤ 2) (hd : CX h p (JE p s me)) {x : Nat} (hx : x < p.n) (hf : JE p s me x < 1000000) : f_X10_firstLeast (nI x) (nI me) h = some (fsN (flk p s me x) p.m, h) := by
  have hn := c.1.n10
  have hm := c.1.m14
  unfold f_X10_firstLeast
  rw [x_standing c, bd_some]
  have := lpi (fun F (i : Int32) => l_X10_firstLeast_6 F (nI x) (nI me) (SN p s) i h) p.m (fun j i => i = nI j ∧ ∀ k, k < j → flk p s me x k = false) (fun o => o = some (fsN (flk p s me x) p.m, h)) (by
    rintro F j i hj ⟨rfl, hq⟩
    have h10 := c.1.co10 hj
    have e1 : (nI (p.co j) = nI x) ↔ p.co j = x := nI_eq (by omega) (by omega)
    have hb : inb (nI j) 14 = true := inb_nI (by omega) (by omega)
    have hv := fk_le p s me j (JE p s me)
    have e2 : (nI (fk p s me j (JE p s me)) = nI (JE p s me x)) ↔ fk p s me j (JE p s me) = JE p s me x := nI_eq (by omega) (by omega)
    show b_X10_firstLeast_6 (l_X10_firstLeast_6 F) (nI x) (nI me) (SN p s) (nI j) h = _ ∨ ∃ t2, _ ∧ b_X10_firstLeast_6 (l_X10_firstLeast_6 F) (nI x) (nI me) (SN p s) (nI j) h = l_X10_firstLeast_6 F (nI x) (nI me) (SN p s) t2 h
    unfold b_X10_firstLeast_6
    rw [c.m, if_neg (nI_ge hj (by omega)), if_pos hb, nI_cl (show j < 100000 by omega), c.co hj, x_isFirm c _ hj, bd_some, if10, x_costBy c hd hj hme, bd_some, nI_1, if_pos (inb_nI (n := 10) (show x < 10 by omega) (by omega)), nI_cl (show x < 100000 by omega), (hd x hx).1]
    have go : flk p s me x j = false → ∀ k, k < j + 1 → flk p s me x k = false := fun z k hk => by
      by_cases e : k = j
      · rw [e]; exact z
      · exact hq k (by omega)
    by_cases e : p.co j = x
    · rw [if_pos (e1.mpr e)]
      by_cases f : frm p s (SN p s) j = true
      · rw [if_pos f]
        have hu : us p s j = true := by
          unfold frm at f
          rw [Bool.and_eq_true] at f
          exact f.1
        by_cases g : fk p s me j (JE p s me) = JE p s me x
        · left
          rw [if_pos (e2.mpr g), fsN_some hj (by unfold flk; rw [decide_eq_true e, hu, decide_eq_true g]; rfl) hq]
        · right
          rw [if_neg (fun z => g (e2.mp z))]
          exact ⟨_, ⟨rfl, go (by unfold flk; rw [decide_eq_false g]; simp)⟩, rfl⟩
      · right
        rw [if_neg f]
        refine ⟨_, ⟨rfl, go ?_⟩, rfl⟩
        unfold flk
        cases hu : us p s j
        · simp
        · have := frm_far c.1 hj (me := me) (fun y _ => Nat.le_refl _) hu (by simpa using f)
          rw [this, decide_eq_false (show ¬ 1000000 = JE p s me x by omega)]; simp
    · right
      rw [if_neg (fun z => e (e1.mp z))]
      exact ⟨_, ⟨rfl, go (by unfold flk; simp [e])⟩, rfl⟩) (by
    rintro F i ⟨rfl, hq⟩
    show b_X10_firstLeast_6 (l_X10_firstLeast_6 F) (nI x) (nI me) (SN p s) (nI p.m) h = _
    unfold b_X10_firstLeast_6
    rw [c.m, if_pos (Int32.le_refl _), fsN_none hq]) (by omega) 0 ⟨rfl, fun k hk => by omega⟩
  exact this
