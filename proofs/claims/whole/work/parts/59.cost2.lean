/-! ===== the class's costs ===== -/
theorem j_max {a b : Nat} (ha : a < 2 ^ 31) (hb : b < 2 ^ 31) (h : AH) : f_J9_max_7cf53 (nI a) (nI b) h = some (nI (max a b), h) := by
  unfold f_J9_max_7cf53
  by_cases e : a < b
  · rw [if_pos ((nI_ltI ha hb).mpr e), Nat.max_eq_right (by omega)]
  · rw [if_neg (fun z => e ((nI_ltI ha hb).mp z)), Nat.max_eq_left (by omega)]
theorem j_min {a b : Nat} (ha : a < 2 ^ 31) (hb : b < 2 ^ 31) (h : AH) : f_J9_min_7cf53 (nI a) (nI b) h = some (nI (min a b), h) := by
  unfold f_J9_min_7cf53
  by_cases e : b < a
  · rw [if_pos ((nI_ltI hb ha).mpr e), Nat.min_eq_right (by omega)]
  · rw [if_neg (fun z => e ((nI_ltI hb ha).mp z)), Nat.min_eq_left (by omega)]
theorem x_isFirm {h : AH} {p : PD} {s : SD} (c : XC h p s) (S : Int32) {k : Nat} (hk : k < p.m) : f_X10_isFirm (nI k) S h = some (if frm p s S k = true then 1 else 0, h) := by
  have hm := c.1.m14
  unfold f_X10_isFirm
  rw [x_isUsable c hk, bd_some, if10, if_pos (inb_nI (n := 14) (by omega) (by omega)), nI_cl (by omega), c.pa hk, zn0, zn1]
  unfold frm
  cases us p s k
  · rw [if_neg (by decide), Bool.false_and, if_neg (by decide)]
  · rw [if_pos rfl, Bool.true_and]
    by_cases e : p.pa k &&& (S ^^^ (-1)) = 0
    · rw [if_pos e, if_pos (decide_eq_true e)]
    · rw [if_neg e, if_neg (by rw [decide_eq_false e]; decide)]
def CX (h : AH) (p : PD) (c : Nat → Nat) : Prop := ∀ y, y < p.n → h.1 21 0 y = nI (c y) ∧ c y ≤ 1000000
theorem SV.su9 {p : PD} {s : SD} (v : SV p s) {k : Nat} (h : k < p.m) : 1 ≤ s.su k ∧ s.su k ≤ 9 := v.2.2.2.2.1 k h
theorem x_costBy {h : AH} {p : PD} {s : SD} (c : XC h p s) {d : Nat → Nat} (hd : CX h p d) {k me : Nat} (hk : k < p.m) (hme : me ≤ 2) : f_X10_costBy (nI k) (nI me) h = some (nI (fk p s me k d), h) := by
  have hn := c.1.n10
  have hm := c.1.m14
  unfold f_X10_costBy
  have hw : ∀ j, j ≤ p.n → wst p d k j ≤ 1000000 := fun j hj => wst_le j (fun y hy _ => (hd y (by omega)).2)
  have hs : ∀ j, j ≤ p.n → smp p d k j ≤ 10000000 := fun j hj => by
    have := smp_le (p := p) (c := d) (k := k) (B := 1000000) j (fun y hy => (hd y (by omega)).2)
    omega
  have := lp0 (fun F j => l_X10_costBy_6 F (nI k) (nI me) (nI (wst p d k j)) (nI (smp p d k j)) (nI j) h) p.n (some ((nI (wst p d k p.n), nI (smp p d k p.n)), h)) (by
    intro F j hj
    show b_X10_costBy_6 (l_X10_costBy_6 F) (nI k) (nI me) _ _ (nI j) h = l_X10_costBy_6 F (nI k) (nI me) (nI (if bt (p.pa k) j = true then max (wst p d k j) (d j) else wst p d k j)) (nI (if bt (p.pa k) j = true then smp p d k j + d j else smp p d k j)) (nI (j + 1)) h
    have h1 := hw j (by omega)
    have h2 := hs j (by omega)
    have h3 := hd j hj
    unfold b_X10_costBy_6
    rw [c.n, if_neg (nI_ge hj (by omega)), if_pos (inb_nI (n := 14) (show k < 14 by omega) (by omega)), nI_cl (show k < 100000 by omega), c.pa hk, x_has _ (show j < 32 by omega), bd_some, if10, nI_cl (show j < 100000 by omega), h3.1, j_max (by omega) (by omega), bd_some, h3.1, nI_1, nI_add, if_pos (inb_nI (n := 10) (show j < 10 by omega) (by omega)), if_pos (inb_nI (n := 10) (show j < 10 by omega) (by omega))]
    by_cases e : bt (p.pa k) j = true
    · rw [if_pos e, if_pos e, if_pos e]
    · rw [if_neg e, if_neg e, if_neg e]) (by
    intro F
    show b_X10_costBy_6 (l_X10_costBy_6 F) (nI k) (nI me) _ _ (nI p.n) h = _
    unfold b_X10_costBy_6
    rw [c.n, if_pos (Int32.le_refl _)]) (by omega)
  rw [nI_0] at this
  show bd (l_X10_costBy_6 FU (nI k) (nI me) (nI (wst p d k 0)) (nI (smp p d k 0)) 0 h) _ = _
  rw [this, bd_some]
  have h1 := hw p.n (Nat.le_refl _)
  have h2 := hs p.n (Nat.le_refl _)
  have h3 := c.2.1.su9 hk
  unfold c_X10_costBy_35 fk
  by_cases e : wst p d k p.n < 1000000
  · rw [if_pos e, if_pos (show nI (wst p d k p.n) < (1000000 : Int32) from (nI_ltI (b := 1000000) (by omega) (by omega)).mpr e)]
    by_cases m0 : me = 0
    · subst m0
      rw [if_pos (c := nI 0 = 0) rfl, if_pos rfl, show (1 : Int32) + nI (wst p d k p.n) = nI (1 + wst p d k p.n) from nI_add 1 _]
    · rw [if_neg (fun z => m0 ((nI_eq0 (by omega)).mp z)), if_neg m0]
      by_cases m1 : me = 1
      · subst m1
        rw [if_pos (c := nI 1 = 1) rfl, if_pos rfl, show (1 : Int32) + nI (smp p d k p.n) = nI (1 + smp p d k p.n) from nI_add 1 _, show (999 : Int32) = nI 999 from rfl, j_min (by omega) (by omega), bd_some]
      · rw [if_neg (show ¬ nI me = (1 : Int32) from fun z => m1 ((nI_eq (b := 1) (by omega) (by omega)).mp z)), if_neg m1, if_pos (inb_nI (n := 14) (show k < 14 by omega) (by omega)), nI_cl (show k < 100000 by omega), c.su hk, show (9 : Int32) - nI (s.su k) = nI (9 - s.su k) from nI_sub (a := 9) (by omega), j_max (by omega) (by omega), bd_some]
  · rw [if_neg e, if_neg (show ¬ nI (wst p d k p.n) < (1000000 : Int32) from fun z => e ((nI_ltI (b := 1000000) (by omega) (by omega)).mp z))]
    rfl
theorem x_relax {h : AH} {p : PD} {s : SD} (c : XC h p s) {d : Nat → Nat} (hd : CX h p d) {me : Nat} (hme : me ≤ 2) (hlow : ∀ y, y < p.n → JE p s me y ≤ d y) : ∃ f h2 d2, f_X10_relax (SN p s) (nI me) h = some (f, h2) ∧ (f = 0 ∨ f = 1) ∧ SX h h2 ∧ CX h2 p d2 ∧ (∀ y, y < p.n → JE p s me y ≤ d2 y) ∧ (∀ y, y < p.n → d2 y ≤ red p s me d y p.m) ∧ (f = 0 → ∀ y, y < p.n → d2 y = d y) := by
  have hn := c.1.n10
  have hm := c.1.m14
  unfold f_X10_relax
  have := lpi (fun F (q : Int32 × Int32 × AH) => l_X10_relax_4 F (SN p s) (nI me) q.1 q.2.1 q.2.2) p.m
    (fun j q => q.2.1 = nI j ∧ (q.1 = 0 ∨ q.1 = 1) ∧ SX h q.2.2 ∧ ∃ e : Nat → Nat, CX q.2.2 p e ∧ (∀ y, y < p.n → JE p s me y ≤ e y) ∧ (∀ y, y < p.n → e y ≤ d y) ∧ (∀ k, k < j → us p s k = true → e (p.co k) ≤ fk p s me k d) ∧ (q.1 = 0 → ∀ y, y < p.n → e y = d y))
    (fun o => ∃ f h2 d2, o = some (f, h2) ∧ (f = 0 ∨ f = 1) ∧ SX h h2 ∧ CX h2 p d2 ∧ (∀ y, y < p.n → JE p s me y ≤ d2 y) ∧ (∀ y, y < p.n → d2 y ≤ red p s me d y p.m) ∧ (f = 0 → ∀ y, y < p.n → d2 y = d y)) (by
    rintro F j ⟨f, i, g⟩ hj ⟨q1, q2, q3, e, q4, q5, q6, q7, q8⟩
    simp only at q1 q2 q3 q4 q8
    subst q1
    right
    have ck := c.fr q3.k
    have hcn := c.1.con hj
    have h10 := c.1.co10 hj
    have hb : inb (nI j) 14 = true := inb_nI (by omega) (by omega)
    have hb2 : inb (nI (p.co j)) 10 = true := inb_nI (by omega) (by omega)
    show ∃ t2 : Int32 × Int32 × AH, _ ∧ b_X10_relax_4 (l_X10_relax_4 F) (SN p s) (nI me) f (nI j) g = l_X10_relax_4 F (SN p s) (nI me) t2.1 t2.2.1 t2.2.2
    unfold b_X10_relax_4
    have hv := fk_le p s me j e
    have hc := q4 (p.co j) hcn
    rw [ck.m, if_neg (nI_ge hj (by omega)), if_pos hb, x_isFirm ck _ hj, bd_some, if10, x_costBy ck q4 hj hme, bd_some, nI_cl (show j < 100000 by omega), ck.co hj, nI_cl (show p.co j < 100000 by omega), nI_1, hc.1]
    simp only [if_pos hb2, j_min (show e (p.co j) < 2 ^ 31 by omega) (show fk p s me j e < 2 ^ 31 by omega), bd_some]
    by_cases fm : frm p s (SN p s) j = true
    · rw [if_pos fm]
      have hu : us p s j = true := by
        unfold frm at fm
        rw [Bool.and_eq_true] at fm
        exact fm.1
      let e2 : Nat → Nat := fun y => if y = p.co j then min (e (p.co j)) (fk p s me j e) else e y
      have e2le : ∀ y, e2 y ≤ e y := fun y => by
        show (if y = p.co j then min (e (p.co j)) (fk p s me j e) else e y) ≤ e y
        split
        · rename_i z; rw [z]; exact Nat.min_le_left _ _
        · exact Nat.le_refl _
      have key : ∀ f2 : Int32, (f2 = 0 ∨ f2 = 1) → (f2 = 0 → f = 0 ∧ e (p.co j) ≤ fk p s me j e) → ∃ t2 : Int32 × Int32 × AH, (t2.2.1 = nI (j + 1) ∧ (t2.1 = 0 ∨ t2.1 = 1) ∧ SX h t2.2.2 ∧ ∃ e : Nat → Nat, CX t2.2.2 p e ∧ (∀ y, y < p.n → JE p s me y ≤ e y) ∧ (∀ y, y < p.n → e y ≤ d y) ∧ (∀ k, k < j + 1 → us p s k = true → e (p.co k) ≤ fk p s me k d) ∧ (t2.1 = 0 → ∀ y, y < p.n → e y = d y)) ∧ l_X10_relax_4 F (SN p s) (nI me) f2 (nI (j + 1)) (hsI g 21 0 (p.co j) (nI (min (e (p.co j)) (fk p s me j e)))) = l_X10_relax_4 F (SN p s) (nI me) t2.1 t2.2.1 t2.2.2 := by
        intro f2 hf2 hz
        refine ⟨(f2, nI (j + 1), hsI g 21 0 (p.co j) (nI (min (e (p.co j)) (fk p s me j e)))), ⟨rfl, hf2, q3.sI (by omega), e2, ?_, ?_, ?_, ?_, ?_⟩, rfl⟩
        · intro y hy
          refine ⟨?_, Nat.le_trans (e2le y) (q4 y hy).2⟩
          show (hsI g 21 0 (p.co j) (nI (min (e (p.co j)) (fk p s me j e)))).1 21 0 y = nI (if y = p.co j then min (e (p.co j)) (fk p s me j e) else e y)
          rw [hsI_1]
          by_cases z : y = p.co j
          · rw [if_pos ⟨rfl, rfl, z⟩, if_pos z]
          · rw [if_neg (fun w => z w.2.2), if_neg z]; exact (q4 y hy).1
        · intro y hy
          show JE p s me y ≤ if y = p.co j then min (e (p.co j)) (fk p s me j e) else e y
          split
          · rename_i z
            have h1 := q5 (p.co j) hcn
            have h2 := JE_fix c.1 (me := me) hj hu
            have h3 : fk p s me j (JE p s me) ≤ fk p s me j e := fk_mono q5
            rw [z]
            exact Nat.le_min.mpr ⟨h1, by omega⟩
          · exact q5 y hy
        · exact fun y hy => Nat.le_trans (e2le y) (q6 y hy)
        · intro k hk hku
          by_cases z : k = j
          · subst z
            have h3 : fk p s me k e ≤ fk p s me k d := fk_mono q6
            have h4 : e2 (p.co k) = min (e (p.co k)) (fk p s me k e) := if_pos rfl
            rw [h4]
            exact Nat.le_trans (Nat.min_le_right _ _) h3
          · exact Nat.le_trans (e2le _) (q7 k (by omega) hku)
        · intro z y hy
          obtain ⟨z1, z2⟩ := hz z
          have h5 := q8 z1 y hy
          show (if y = p.co j then min (e (p.co j)) (fk p s me j e) else e y) = d y
          split
          · rename_i w; rw [w, Nat.min_eq_left z2, ← w]; exact h5
          · exact h5
      by_cases f0 : f = 0
      · rw [if_pos f0]
        by_cases le : e (p.co j) ≤ fk p s me j e
        · rw [if_pos ((nI_leI (by omega) (by omega)).mpr le)]
          exact key 0 (Or.inl rfl) (fun _ => ⟨f0, le⟩)
        · rw [if_neg (fun z => le ((nI_leI (by omega) (by omega)).mp z))]
          exact key 1 (Or.inr rfl) (fun z => absurd z i10)
      · rw [if_neg f0]
        exact key 1 (Or.inr rfl) (fun z => absurd z i10)
    · rw [if_neg fm]
      refine ⟨(f, nI (j + 1), g), ⟨rfl, q2, q3, e, q4, q5, q6, fun k hk hku => ?_, q8⟩, rfl⟩
      by_cases z : k = j
      · subst z
        rw [frm_far c.1 hj (fun y hy => hlow y hy) hku (by simpa using fm)]
        exact (q4 _ hcn).2
      · exact q7 k (by omega) hku) (by
    rintro F ⟨f, i, g⟩ ⟨q1, q2, q3, e, q4, q5, q6, q7, q8⟩
    simp only at q1 q2 q3 q4 q8
    subst q1
    have ck := c.fr q3.k
    show ∃ f2 h2 d2, b_X10_relax_4 (l_X10_relax_4 F) (SN p s) (nI me) f (nI p.m) g = some (f2, h2) ∧ _
    unfold b_X10_relax_4
    rw [ck.m, if_pos (Int32.le_refl _)]
    refine ⟨f, g, e, rfl, q2, q3, q4, q5, fun y hy => ?_, q8⟩
    rcases red_cs p s me d y p.m with z | ⟨k, k1, k2, k3, z⟩
    · rw [z]; exact q6 y hy
    · rw [z, ← k2]; exact q7 k k1 k3) (by omega) (0, 0, h) ⟨rfl, Or.inl rfl, SX.rfl, d, hd, hlow, fun y _ => Nat.le_refl _, fun k hk => by omega, fun _ _ _ => rfl⟩
  obtain ⟨f, h2, d2, a, b, r⟩ := this
  have a' : l_X10_relax_4 FU (SN p s) (nI me) 0 0 h = some (f, h2) := a
  rw [a', bd_some]
  refine ⟨f, h2, d2, ?_, b, r⟩
  unfold c_X10_relax_49
  rcases b with z | z
  · rw [z, zn0]
  · rw [z, zn1]
