/-! ===== steps and sure, by the reference ===== -/
theorem hsI_self (h : AH) (k i j : Nat) : hsI h k i j (h.1 k i j) = h := by
  unfold hsI
  congr 1
  funext a b c
  split
  · rename_i z; rw [z.1, z.2.1, z.2.2]
  · rfl
theorem m_lesser {a b : Nat} (ha : a < 2 ^ 31) (hb : b < 2 ^ 31) (h : AH) : f_X12_lesser (nI a) (nI b) h = some (nI (min a b), h) := by
  unfold f_X12_lesser
  by_cases e : b ≤ a
  · rw [if_pos ((nI_leI hb ha).mpr e), Nat.min_eq_right e]
  · rw [if_neg (fun z => e ((nI_leI hb ha).mp z)), Nat.min_eq_left (by omega)]
theorem m_greater {a b : Nat} (ha : a < 2 ^ 31) (hb : b < 2 ^ 31) (h : AH) : f_X12_greater (nI a) (nI b) h = some (nI (max a b), h) := by
  unfold f_X12_greater
  by_cases e : a ≤ b
  · rw [if_pos ((nI_leI ha hb).mpr e), Nat.max_eq_right e]
  · rw [if_neg (fun z => e ((nI_leI ha hb).mp z)), Nat.max_eq_left (by omega)]
def FR (B c : Nat) : Prop := c ≤ B ∨ c = 1000000
theorem FR.max {B a b : Nat} (hB : B < 1000000) (ha : FR B a) (hb : FR B b) : FR B (max a b) := by
  unfold FR at *
  omega
theorem FR.min {B a b : Nat} (ha : FR B a) (hb : FR B b) : FR B (min a b) := by
  unfold FR at *
  omega
theorem wst_fr {p : PD} {c : Nat → Nat} {k B : Nat} (hB : B < 1000000) : ∀ j, (∀ y, y < j → FR B (c y)) → FR B (wst p c k j)
  | 0, _ => Or.inl (Nat.zero_le _)
  | j + 1, h => by
    have ih := wst_fr (p := p) (c := c) (k := k) hB j (fun y hy => h y (by omega))
    show FR B (if bt (p.pa k) j = true then Nat.max (wst p c k j) (c j) else wst p c k j)
    split
    · exact ih.max hB (h j (by omega))
    · exact ih
theorem e1_neg {c : Nat} (h : FR 99999 c) : e1 c = -9 ↔ c = 1000000 := by
  unfold FR at h
  rw [e1_9 (by omega)]
  omega
theorem e1_pos {c : Nat} (h : c < 1000000) : e1 c = nI c := if_pos h
theorem e1_far : e1 1000000 = -9 := if_neg (by omega)
def MV (h : AH) (p : PD) (q B : Nat) (e : Nat → Int32) (c : Nat → Nat) : Prop := ∀ y, y < p.n → h.1 q 0 y = e (c y) ∧ FR B (c y)
/-- sums, step by step -/
def sq (p : PD) (c : Nat → Nat) (k j : Nat) : Nat := if wst p c k j < 1000000 then min 999 (1 + smp p c k j) else 1000000
theorem m_sumParts {h : AH} {p : PD} {s : SD} (c : MC h p s) {d : Nat → Nat} (hd : MV h p 55 999 e1 d) {k : Nat} (hk : k < p.m) : f_X12_sumParts (nI k) h = some (e1 (fk p s 1 k d), h) := by
  have hn := c.1.n10
  have hm := c.1.m14
  unfold f_X12_sumParts
  have := lp0 (fun F j => l_X12_sumParts_4 F (nI k) (e1 (sq p d k j)) (nI j) h) p.n (some (e1 (sq p d k p.n), h)) (by
    intro F j hj
    show b_X12_sumParts_4 (l_X12_sumParts_4 F) (nI k) _ (nI j) h = l_X12_sumParts_4 F (nI k) _ (nI (j + 1)) h
    have hw := wst_fr (p := p) (c := d) (k := k) (B := 999) (by omega) j (fun y hy => (hd y (by omega)).2)
    have h3 := hd j hj
    have h4 := h3.2
    unfold FR at hw h4
    have hs : sq p d k (j + 1) = if bt (p.pa k) j = true then (if max (wst p d k j) (d j) < 1000000 then min 999 (1 + (smp p d k j + d j)) else 1000000) else sq p d k j := by
      unfold sq
      show (if (if bt (p.pa k) j = true then max (wst p d k j) (d j) else wst p d k j) < 1000000 then min 999 (1 + (if bt (p.pa k) j = true then smp p d k j + d j else smp p d k j)) else 1000000) = _
      by_cases e : bt (p.pa k) j = true
      · rw [if_pos e, if_pos e, if_pos e]
      · rw [if_neg e, if_neg e, if_neg e]
    have hf : FR 99999 (sq p d k j) := by
      unfold sq FR
      split <;> omega
    unfold b_X12_sumParts_4
    rw [c.n, if_neg (nI_ge hj (by omega)), if_pos (inb_nI (n := 14) (show k < 14 by omega) (by omega)), nI_cl (show k < 100000 by omega), c.pa hk, m_has _ (show j < 32 by omega), bd_some, if10, nI_cl (show j < 100000 by omega), h3.1, nI_1, if_pos (inb_nI (n := 10) (show j < 10 by omega) (by omega)), if_pos (inb_nI (n := 10) (show j < 10 by omega) (by omega)), hs]
    by_cases e : bt (p.pa k) j = true
    · rw [if_pos e, if_pos e]
      by_cases f : wst p d k j < 1000000
      · have s1 : sq p d k j = min 999 (1 + smp p d k j) := if_pos f
        have s2 : e1 (sq p d k j) = nI (min 999 (1 + smp p d k j)) := by rw [s1, e1_pos (by omega)]
        rw [s2, if_neg (nI_n9 (by omega))]
        by_cases g : d j = 1000000
        · rw [g, e1_far, if_pos rfl, if_neg (by omega), e1_far]
        · have g2 : d j ≤ 999 := by omega
          rw [e1_pos (show d j < 1000000 by omega), if_neg (nI_n9 (by omega)), nI_add, show (999 : Int32) = nI 999 from rfl, m_lesser (by omega) (by omega), bd_some, if_pos (by omega), e1_pos (by omega)]
          congr 2
          omega
      · have s1 : sq p d k j = 1000000 := if_neg f
        rw [s1, e1_far, if_pos rfl, if_neg (by omega), e1_far]
    · rw [if_neg e, if_neg e]) (by
    intro F
    show b_X12_sumParts_4 (l_X12_sumParts_4 F) (nI k) _ (nI p.n) h = _
    unfold b_X12_sumParts_4
    rw [c.n, if_pos (Int32.le_refl _)]) (by omega)
  rw [nI_0] at this
  show bd (l_X12_sumParts_4 FU (nI k) (e1 (sq p d k 0)) 0 h) _ = _
  rw [this]
  rfl
theorem m_init {h : AH} {p : PD} {s : SD} (c : MC h p s) (me : Nat) {x : Nat} (hx : x < p.n) {α : Type} (a b : α) : (if nI (p.ki x) = (1 : Int32) then (if bt (SN p s) x = true then a else b) else b) = if Jc p s me 0 x = 0 then a else b := by
  have hk := c.1.ki5 hx
  have e1 : (nI (p.ki x) = 1) ↔ p.ki x = 1 := nI_eq (b := 1) (by omega) (by omega)
  have hj : Jc p s me 0 x = if p.ki x = 1 ∧ bt (SN p s) x = true then 0 else 1000000 := rfl
  rw [hj]
  by_cases e : p.ki x = 1
  · rw [if_pos (e1.mpr e)]
    by_cases f : bt (SN p s) x = true
    · rw [if_pos f, if_pos (c := p.ki x = 1 ∧ bt (SN p s) x = true) ⟨e, f⟩, if_pos rfl]
    · rw [if_neg f, if_neg (c := p.ki x = 1 ∧ bt (SN p s) x = true) (fun z => f z.2), if_neg (by omega)]
  · rw [if_neg (fun z => e (e1.mp z)), if_neg (c := p.ki x = 1 ∧ bt (SN p s) x = true) (fun z => e z.1), if_neg (by omega)]
theorem Jc00 (p : PD) (s : SD) (me x : Nat) : Jc p s me 0 x = 0 ∨ Jc p s me 0 x = 1000000 := by
  show (if p.ki x = 1 ∧ bt (SN p s) x = true then 0 else 1000000) = 0 ∨ (if p.ki x = 1 ∧ bt (SN p s) x = true then 0 else 1000000) = 1000000
  split
  · exact Or.inl rfl
  · exact Or.inr rfl
theorem m_st8 {h : AH} {p : PD} {s : SD} (c : MC h p s) (x1 : Int32) : l_X12_steps_8 FU x1 0 h = some ((), hfl h 56 0 0 p.n (fun y => e1 (Jc p s 1 0 y))) := by
  have hn := c.1.n10
  have := lp0 (fun F j => l_X12_steps_8 F x1 (nI j) (hfl h 56 0 0 j (fun y => e1 (Jc p s 1 0 y)))) p.n (some ((), hfl h 56 0 0 p.n (fun y => e1 (Jc p s 1 0 y)))) (by
    intro F j hj
    show b_X12_steps_8 (l_X12_steps_8 F) x1 (nI j) (hfl h 56 0 0 j (fun y => e1 (Jc p s 1 0 y))) = l_X12_steps_8 F x1 (nI (j + 1)) (hfl h 56 0 0 (j + 1) (fun y => e1 (Jc p s 1 0 y)))
    have hb : inb (nI j) 10 = true := inb_nI (by omega) (by omega)
    have ck : MC (hfl h 56 0 0 j (fun y => e1 (Jc p s 1 0 y))) p s := c.fr (KM.rfl.fl (by omega) (by omega) (by omega))
    rw [← hfl_s0]
    unfold b_X12_steps_8
    rw [ck.n, if_neg (nI_ge hj (by omega)), nI_cl (by omega), ck.ki hj, m_standNow ck, bd_some, m_has _ (by omega), bd_some, if10, nI_1]
    simp only [if_pos hb]
    rw [m_init c 1 hj]
    rcases Jc00 p s 1 j with e | e
    · rw [if_pos e, e]; rfl
    · rw [if_neg (by omega), e, e1_far]) (by
    intro F
    show b_X12_steps_8 (l_X12_steps_8 F) x1 (nI p.n) _ = _
    unfold b_X12_steps_8
    rw [hfl_k (a := 34) (by decide), c.n, if_pos (Int32.le_refl _)]) (by omega)
  simp only [nI_0, hfl_0] at this
  exact this
theorem fk1_fr (p : PD) (s : SD) (k : Nat) (d : Nat → Nat) : FR 999 (fk p s 1 k d) := by
  unfold fk FR
  split
  · rw [if_neg (by omega), if_pos rfl]; omega
  · omega
theorem red1_fr {p : PD} {s : SD} {d : Nat → Nat} {x : Nat} (h : FR 999 (d x)) : ∀ j, FR 999 (red p s 1 d x j)
  | 0 => h
  | j + 1 => by
    have ih := red1_fr (p := p) (s := s) h j
    show FR 999 (if p.co j = x ∧ us p s j = true then Nat.min (red p s 1 d x j) (fk p s 1 j d) else red p s 1 d x j)
    split
    · exact ih.min (fk1_fr p s j d)
    · exact ih
theorem FR.up {B C c : Nat} (h : FR B c) (e : B ≤ C) : FR C c := by
  unfold FR at *
  omega
theorem m_st42 {h : AH} {p : PD} {s : SD} (c : MC h p s) (x1 x2 : Int32) {d : Nat → Nat} (hv : MV h p 55 999 e1 d) (ht : MV h p 56 999 e1 d) : ∃ h2, l_X12_steps_42 FU x1 x2 0 h = some ((), h2) ∧ SM h h2 ∧ MV h2 p 56 999 e1 (fun x => red p s 1 d x p.m) := by
  have hn := c.1.n10
  have hm := c.1.m14
  have := lpi (fun F (q : Int32 × AH) => l_X12_steps_42 F x1 x2 q.1 q.2) p.m
    (fun j q => q.1 = nI j ∧ SM h q.2 ∧ q.2.1 55 = h.1 55 ∧ MV q.2 p 56 999 e1 (fun x => red p s 1 d x j))
    (fun o => ∃ h2, o = some ((), h2) ∧ SM h h2 ∧ MV h2 p 56 999 e1 (fun x => red p s 1 d x p.m)) (by
    rintro F j ⟨i, g⟩ hj ⟨q1, q2, q3, q4⟩
    simp only at q1 q2 q3 q4
    subst q1
    right
    have ck := c.fr q2.k
    have hcn := c.1.con hj
    have h10 := c.1.co10 hj
    have hb : inb (nI j) 14 = true := inb_nI (by omega) (by omega)
    have hb2 : inb (nI (p.co j)) 10 = true := inb_nI (by omega) (by omega)
    have hvg : MV g p 55 999 e1 d := fun y hy => by rw [q3]; exact hv y hy
    have hT := (q4 (p.co j) hcn)
    have hF := fk1_fr p s j d
    show ∃ t2 : Int32 × AH, _ ∧ b_X12_steps_42 (l_X12_steps_42 F) x1 x2 (nI j) g = l_X12_steps_42 F x1 x2 t2.1 t2.2
    unfold b_X12_steps_42
    rw [ck.m, if_neg (nI_ge hj (by omega)), m_isUsable ck hj, bd_some, if10, m_sumParts ck hvg hj, bd_some, nI_cl (show j < 100000 by omega), ck.co hj, nI_cl (show p.co j < 100000 by omega), nI_1]
    simp only [if_pos hb2, if_pos hb, hsI_self, hT.1]
    have same : (¬ us p s j = true ∨ fk p s 1 j d = 1000000) → MV g p 56 999 e1 (fun x => red p s 1 d x (j + 1)) := by
      intro hz y hy
      have hr : red p s 1 d y (j + 1) = red p s 1 d y j := by
        show (if p.co j = y ∧ us p s j = true then min (red p s 1 d y j) (fk p s 1 j d) else red p s 1 d y j) = _
        split
        · rename_i w
          rcases hz with z | z
          · exact absurd w.2 z
          · rw [z]
            have := (q4 y hy).2
            unfold FR at this
            simp only at this
            omega
        · rfl
      simp only [hr]
      exact q4 y hy
    by_cases u : us p s j = true
    · rw [if_pos u]
      by_cases f : fk p s 1 j d = 1000000
      · rw [f, e1_far, if_pos rfl]
        refine ⟨(nI (j + 1), g), ⟨rfl, q2, q3, same (Or.inr f)⟩, ?_⟩
        rw [← hT.1, hsI_self]
      · have f9 : fk p s 1 j d ≤ 999 := by unfold FR at hF; omega
        have hT2 := hT.2
        unfold FR at hT2
        simp only at hT2
        have hm' : ∀ v, v = e1 (min (red p s 1 d (p.co j) j) (fk p s 1 j d)) → MV (hsI g 56 0 (p.co j) v) p 56 999 e1 (fun x => red p s 1 d x (j + 1)) := by
          intro v ev y hy
          rw [hsI_1]
          have hr : red p s 1 d y (j + 1) = if p.co j = y ∧ us p s j = true then min (red p s 1 d y j) (fk p s 1 j d) else red p s 1 d y j := rfl
          simp only [hr]
          by_cases z : y = p.co j
          · rw [if_pos ⟨trivial, trivial, z⟩, if_pos ⟨z.symm, u⟩, z, ev]
            exact ⟨rfl, hT.2.min hF⟩
          · rw [if_neg (fun w => z w.2.2), if_neg (fun w => z w.1.symm)]
            exact q4 y hy
        rw [if_neg (fun z => f ((e1_neg (hF.up (by omega))).mp z))]
        by_cases g1 : red p s 1 d (p.co j) j = 1000000
        · rw [g1, e1_far, if_pos rfl]
          exact ⟨(nI (j + 1), hsI g 56 0 (p.co j) (e1 (fk p s 1 j d))), ⟨rfl, q2.sI (by omega), by rw [hsI_k (by decide)]; exact q3, hm' _ (by rw [g1]; congr 1; omega)⟩, rfl⟩
        · rw [if_neg (fun z => g1 ((e1_neg (hT.2.up (by omega))).mp z)), e1_pos (show red p s 1 d (p.co j) j < 1000000 by omega), e1_pos (show fk p s 1 j d < 1000000 by omega), m_lesser (by omega) (by omega), bd_some]
          exact ⟨(nI (j + 1), hsI g 56 0 (p.co j) (nI (min (red p s 1 d (p.co j) j) (fk p s 1 j d)))), ⟨rfl, q2.sI (by omega), by rw [hsI_k (by decide)]; exact q3, hm' _ (by rw [e1_pos (by omega)])⟩, rfl⟩
    · rw [if_neg u]
      refine ⟨(nI (j + 1), g), ⟨rfl, q2, q3, same (Or.inl u)⟩, ?_⟩
      rw [← hT.1, hsI_self]) (by
    rintro F ⟨i, g⟩ ⟨q1, q2, q3, q4⟩
    simp only at q1 q2 q3 q4
    subst q1
    have ck := c.fr q2.k
    show ∃ h2, b_X12_steps_42 (l_X12_steps_42 F) x1 x2 (nI p.m) g = _ ∧ _
    unfold b_X12_steps_42
    rw [ck.m, if_pos (Int32.le_refl _)]
    exact ⟨g, rfl, q2, q4⟩) (by omega) (0, h) ⟨rfl, SM.rfl, rfl, ht⟩
  exact this
theorem m_steps {h : AH} {p : PD} {s : SD} (c : MC h p s) {x : Nat} (hx : x < p.n) : ∃ h2, c_X12_steps_32 (nI x) (hfl h 56 0 0 p.n (fun y => e1 (Jc p s 1 0 y))) = some (e1 (JE p s 1 x), h2) ∧ SM h h2 := by
  have hn := c.1.n10
  have s0 : SM h (hfl h 56 0 0 p.n (fun y => e1 (Jc p s 1 0 y))) := SM.rfl.fl (by omega)
  unfold c_X12_steps_32
  have := lpi (fun F (q : Int32 × AH) => l_X12_steps_34 F (nI x) q.1 q.2) (p.n + 1)
    (fun j q => q.1 = nI j ∧ SM h q.2 ∧ MV q.2 p 56 999 e1 (Jc p s 1 j))
    (fun o => ∃ h2, o = some ((), h2) ∧ SM h h2 ∧ MV h2 p 56 999 e1 (Jc p s 1 (p.n + 1))) (by
    rintro F j ⟨i, g⟩ hj ⟨q1, q2, q3⟩
    simp only at q1 q2 q3
    subst q1
    right
    have ck := c.fr q2.k
    show ∃ t2 : Int32 × AH, _ ∧ b_X12_steps_34 (l_X12_steps_34 F) (nI x) (nI j) g = l_X12_steps_34 F (nI x) t2.1 t2.2
    unfold b_X12_steps_34
    have s1 : SM h (hfl g 55 0 0 p.n (g.1 56 0)) := q2.fl (by omega)
    have c1 := c.fr s1.k
    obtain ⟨h2, r1, r2, r3⟩ := m_st42 c1 (nI x) (nI j) (d := Jc p s 1 j) (fun y hy => by rw [hfl_1, if_pos (by omega)]; exact q3 y hy) (fun y hy => by rw [hfl_k (a := 56) (by decide)]; exact q3 y hy)
    rw [ck.n, if_neg (fun z => by have := (nI_ltI (by omega) (by omega)).mp z; omega), m_takeT ck, bd_some, r1, bd_some]
    refine ⟨(nI (j + 1), h2), ⟨rfl, s1.tr r2, r3⟩, ?_⟩
    unfold c_X12_steps_86
    rw [nI_1]) (by
    rintro F ⟨i, g⟩ ⟨q1, q2, q3⟩
    simp only at q1 q2 q3
    subst q1
    have ck := c.fr q2.k
    show ∃ h2, b_X12_steps_34 (l_X12_steps_34 F) (nI x) (nI (p.n + 1)) g = _ ∧ _
    unfold b_X12_steps_34
    rw [ck.n, if_pos ((nI_ltI (by omega) (by omega)).mpr (by omega))]
    exact ⟨g, rfl, q2, q3⟩) (by omega) (0, hfl h 56 0 0 p.n (fun y => e1 (Jc p s 1 0 y))) ⟨rfl, s0, fun y hy => ⟨by
      show (hfl h 56 0 0 p.n (fun y => e1 (Jc p s 1 0 y))).1 56 0 y = _
      rw [hfl_1, if_pos (by omega)]; rfl, by
      rcases Jc00 p s 1 y with e | e
      · exact Or.inl (by omega)
      · exact Or.inr e⟩⟩
  obtain ⟨h2, a, b, d⟩ := this
  have a' : l_X12_steps_34 FU (nI x) 0 (hfl h 56 0 0 p.n (fun y => e1 (Jc p s 1 0 y))) = some ((), h2) := a
  refine ⟨h2, ?_, b⟩
  rw [a', bd_some]
  unfold c_X12_steps_88
  rw [if_pos (inb_nI (n := 10) (by omega) (by omega)), nI_cl (by omega), (d x hx).1, JE_ge p s 1 (by omega) hx]
theorem e_steps : E1 Rel f_X11_steps f_X12_steps := by
  intro a hx hm h
  show OR _ _
  obtain ⟨b, p, s, d⟩ := h
  have h : Rel hx hm := ⟨b, p, s, d⟩
  have hn := d.1.n10
  unfold f_X11_steps f_X12_steps
  rw [x_isClaim d.x, m_isClaim d.m, bd_some, bd_some, if10, if10]
  by_cases hb : inb a p.n = true
  rotate_left
  · rw [if_neg hb, if_neg hb]; exact OR.same h rfl rfl
  obtain ⟨x, hxn, rfl⟩ := inb_ex hb
  obtain ⟨hx2, a1, a2, a3⟩ := x_least d.x (me := 1) (by omega) hxn
  obtain ⟨hm2, b1, b2⟩ := m_steps d.m hxn
  rw [if_pos hb, if_pos hb, show (1 : Int32) = nI 1 from rfl, a1, bd_some, m_st8 d.m, bd_some, b1]
  exact OR.same (h.sc a2 b2) rfl rfl
