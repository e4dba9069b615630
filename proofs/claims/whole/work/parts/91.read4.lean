def su1 (P : PD) (su : Nat → Nat) (u : Nat) : Nat → Nat := fun k => if k = P.m then u else su k
theorem x_addR {h : AH} {P : PD} {su : Nat → Nat} {b : Nat} (c : DX h P su b) (hm : P.m < 14) (d u : Nat) (S : Int32) : ∃ h2, f_X6_addReason 1 (nI d) S (nI u) h = some (1, h2) ∧ RX h h2 ∧ DX h2 (addR P d S) (su1 P su u) b := by
  obtain ⟨⟨c1, c2, c3, c4, c5⟩, c6, c7⟩ := c
  unfold f_X6_addReason
  simp only [hsI_k (show (12 : Nat) ≠ 15 by decide), hsI_k (show (12 : Nat) ≠ 16 by decide), hsI_k (show (12 : Nat) ≠ 17 by decide), c2]
  rw [if_pos (show nI P.m < (14 : Int32) from nI_lt (b := 14) hm (by omega)), if_pos (inb_nI hm (by omega)), if_pos (inb_nI hm (by omega)), if_pos (inb_nI hm (by omega)), nI_cl (by omega), nI_1, zn1]
  refine ⟨_, rfl, (((RX.rfl.sI (by omega)).sI (by omega)).sI (by omega)).sI (by omega), ⟨?_, ?_, ?_, ?_, ?_⟩, ?_, ?_⟩
  · rw [hsI_1, if_neg (by omega), hsI_k (show (12 : Nat) ≠ 17 by decide), hsI_k (show (12 : Nat) ≠ 16 by decide), hsI_k (show (12 : Nat) ≠ 15 by decide)]; exact c1
  · rw [hsI_1, if_pos ⟨rfl, rfl, rfl⟩]; rfl
  · intro x hx
    rw [hsI_k (by decide), hsI_k (by decide), hsI_k (by decide), hsI_k (by decide)]; exact c3 x hx
  · intro j hj x
    rw [hsI_k (by decide), hsI_k (by decide), hsI_k (by decide), hsI_k (by decide)]; exact c4 j hj x
  · intro k hk
    have hk' : k < P.m + 1 := hk
    show _ = nI (if k = P.m then d else P.co k) ∧ _ = (if k = P.m then S else P.pa k)
    refine ⟨?_, ?_⟩
    · rw [hsI_k (show (15 : Nat) ≠ 12 by decide), hsI_k (show (15 : Nat) ≠ 17 by decide), hsI_k (show (15 : Nat) ≠ 16 by decide), hsI_1]
      by_cases e : k = P.m
      · rw [if_pos (c := 15 = 15 ∧ 1 = 1 ∧ k = P.m) ⟨rfl, rfl, e⟩, if_pos e]
      · rw [if_neg (c := 15 = 15 ∧ 1 = 1 ∧ k = P.m) (fun z => e z.2.2), if_neg e]
        exact (c5 k (by omega)).1
    · rw [hsI_k (show (16 : Nat) ≠ 12 by decide), hsI_k (show (16 : Nat) ≠ 17 by decide), hsI_1, hsI_k (show (16 : Nat) ≠ 15 by decide)]
      by_cases e : k = P.m
      · rw [if_pos (c := 16 = 16 ∧ 1 = 1 ∧ k = P.m) ⟨rfl, rfl, e⟩, if_pos e]
      · rw [if_neg (c := 16 = 16 ∧ 1 = 1 ∧ k = P.m) (fun z => e z.2.2), if_neg e]
        exact (c5 k (by omega)).2
  · intro k hk
    have hk' : k < P.m + 1 := hk
    rw [hsI_k (by decide), hsI_1]
    unfold su1
    by_cases e : k = P.m
    · rw [if_pos ⟨rfl, rfl, e⟩, if_pos e]
    · rw [if_neg (fun z => e z.2.2), if_neg e, hsI_k (by decide), hsI_k (by decide)]
      exact c6 k (by omega)
  · rw [hsI_k (by decide), hsI_k (by decide), hsI_k (by decide), hsI_k (by decide)]; exact c7
theorem m_tail {hx h : AH} {P : PD} {su : Nat → Nat} {r N b d : Nat} {S : Int32} {tx : Nat → Int32} (hr : r < 4) (hN : N ≤ 80) (hb : b < 900) (hm : P.m < 14) (c : DM h P su b) (t : TX hx h r N tx) : ∃ h2, SM h h2 ∧ ((∃ q, sg N tx 1 9 b = some q ∧ tM r d S h = some (1, h2) ∧ DM h2 (addR P d S) (su1 P su q) (b + 1)) ∨ (sg N tx 1 9 b = none ∧ tM r d S h = some (0, h2) ∧ h2.1 34 0 19 = nI b)) := by
  obtain ⟨h2, s1, o⟩ := m_figure hr hN hb c t (lo := 1) (hi := 9) (by omega) (by omega)
  unfold tM b_X12_readsReason_63
  rw [if_pos (show (0 : Int32) ≤ 0 by decide)]
  rcases o with ⟨q, o1, o2, o3, o4⟩ | ⟨o1, o2, o3⟩
  · have o2' : f_X12_figure (nI r) 1 9 h = some (1, h2) := o2
    obtain ⟨c1, c2, c3, c4, c5⟩ := o3
    rw [o2', bd_some, if_neg i10]
    simp only [hsI_k (show (34 : Nat) ≠ 46 by decide), hsI_k (show (34 : Nat) ≠ 47 by decide), hsI_k (show (34 : Nat) ≠ 48 by decide), c2, o4]
    rw [if_pos (inb_nI hm (by omega)), if_pos (inb_nI hm (by omega)), if_pos (inb_nI hm (by omega)), nI_cl (by omega), nI_1, zn1]
    refine ⟨_, (((s1.sI (by omega)).sI (by omega)).sI (by omega)).sI (by omega), Or.inl ⟨q, o1, rfl, ?_, ?_, ?_, ?_, ?_⟩⟩
    · rw [hsI_1, if_neg (by omega), hsI_k (by decide), hsI_k (by decide), hsI_k (by decide)]; exact c1
    · rw [hsI_1, if_pos ⟨rfl, rfl, rfl⟩]; rfl
    · intro x hx
      rw [hsI_k (by decide), hsI_k (by decide), hsI_k (by decide), hsI_k (by decide)]; exact c3 x hx
    · intro k hk
      have hk' : k < P.m + 1 := hk
      show _ = nI (if k = P.m then d else P.co k) ∧ _ = (if k = P.m then S else P.pa k) ∧ _ = nI (if k = P.m then q else su k)
      refine ⟨?_, ?_, ?_⟩
      · rw [hsI_k (show (46 : Nat) ≠ 34 by decide), hsI_k (show (46 : Nat) ≠ 48 by decide), hsI_k (show (46 : Nat) ≠ 47 by decide), hsI_1]
        by_cases e : k = P.m
        · rw [if_pos (c := 46 = 46 ∧ 0 = 0 ∧ k = P.m) ⟨rfl, rfl, e⟩, if_pos e]
        · rw [if_neg (c := 46 = 46 ∧ 0 = 0 ∧ k = P.m) (fun z => e z.2.2), if_neg e]
          exact (c4 k (by omega)).1
      · rw [hsI_k (show (47 : Nat) ≠ 34 by decide), hsI_k (show (47 : Nat) ≠ 48 by decide), hsI_1, hsI_k (show (47 : Nat) ≠ 46 by decide)]
        by_cases e : k = P.m
        · rw [if_pos (c := 47 = 47 ∧ 0 = 0 ∧ k = P.m) ⟨rfl, rfl, e⟩, if_pos e]
        · rw [if_neg (c := 47 = 47 ∧ 0 = 0 ∧ k = P.m) (fun z => e z.2.2), if_neg e]
          exact (c4 k (by omega)).2.1
      · rw [hsI_k (show (48 : Nat) ≠ 34 by decide), hsI_1, hsI_k (show (48 : Nat) ≠ 47 by decide), hsI_k (show (48 : Nat) ≠ 46 by decide)]
        by_cases e : k = P.m
        · rw [if_pos (c := 48 = 48 ∧ 0 = 0 ∧ k = P.m) ⟨rfl, rfl, e⟩, if_pos e]
        · rw [if_neg (c := 48 = 48 ∧ 0 = 0 ∧ k = P.m) (fun z => e z.2.2), if_neg e]
          exact (c4 k (by omega)).2.2
    · rw [hsI_1, if_neg (by omega), hsI_k (by decide), hsI_k (by decide), hsI_k (by decide)]; exact c5
  · have o2' : f_X12_figure (nI r) 1 9 h = some (0, h2) := o2
    rw [o2', bd_some, if_pos rfl, zn0]
    exact ⟨h2, s1, Or.inr ⟨o1, rfl, o3⟩⟩
/-- both read an item alike -/
def RdO (gx gm : AH) (N a : Nat) (fx fm : Option (Int32 × AH)) : Prop := ∃ gx2 gm2, RX gx gx2 ∧ SM gm gm2 ∧ ((∃ a2, a2 < 1000 ∧ fx = some (0, gx2) ∧ fm = some (0, gm2) ∧ gx2.1 11 0 1 = nI a2 ∧ gm2.1 34 0 19 = nI a2) ∨ (∃ a2 P2 su2, fx = some (1, gx2) ∧ fm = some (1, gm2) ∧ a < a2 ∧ a2 ≤ N ∧ PV P2 ∧ SUV P2 su2 ∧ 0 < P2.n ∧ DX gx2 P2 su2 a2 ∧ DM gm2 P2 su2 a2))
theorem rd_reason {gx gm : AH} {P : PD} {su : Nat → Nat} {r N a : Nat} {tx : Nat → Int32} (v : PV P) (sv : SUV P su) (hr : r < 4) (hN : N ≤ 80) (ha : a < N) (dx : DX gx P su a) (dm : DM gm P su a) (t : TX gx gm r N tx) : RdO gx gm N a (f_X4_readReason r gx) (f_X12_readsReason (nI r) gm) := by
  have hn := v.n10
  have hm := v.m14
  have n14 : ∀ {m : Nat}, m ≤ 14 → ((nI m < (14 : Int32)) ↔ m < 14) := fun {m} h => nI_ltI (b := 14) (by omega) (by omega)
  have fail : ∀ b, RX gx (hsI gx 11 0 1 (nI b)) ∧ SM gm (hsI gm 34 0 19 (nI b)) ∧ (hsI gx 11 0 1 (nI b)).1 11 0 1 = nI b ∧ (hsI gm 34 0 19 (nI b)).1 34 0 19 = nI b := fun b => ⟨RX.rfl.sI (by omega), SM.rfl.sI (by omega), by rw [hsI_1, if_pos ⟨rfl, rfl, rfl⟩], by rw [hsI_1, if_pos ⟨rfl, rfl, rfl⟩]⟩
  unfold f_X4_readReason f_X12_readsReason
  rw [dx.1.1, dm.1, zn0]
  by_cases n0 : P.n = 0
  · rw [if_pos ((nI_eq0 (by omega)).mpr n0), if_pos ((nI_eq0 (by omega)).mpr n0)]
    exact ⟨gx, gm, RX.rfl, SM.rfl, Or.inl ⟨a, by omega, rfl, rfl, dx.2.2, dm.2.2.2.2⟩⟩
  rw [if_neg (fun z => n0 ((nI_eq0 (by omega)).mp z)), if_neg (fun z => n0 ((nI_eq0 (by omega)).mp z)), dx.1.2.1, dm.2.1]
  by_cases m14 : P.m = 14
  · rw [if_neg (fun z => by have := (n14 hm).mp z; omega), if_pos (by rw [m14]; rfl)]
    exact ⟨gx, gm, RX.rfl, SM.rfl, Or.inl ⟨a, by omega, rfl, rfl, dx.2.2, dm.2.2.2.2⟩⟩
  have m14' : ¬ nI P.m = (14 : Int32) := fun z => m14 ((nI_eq (b := 14) (by omega) (by omega)).mp z)
  rw [if_pos ((n14 hm).mpr (by omega)), if_neg m14', dx.2.2, dm.2.2.2.2, nI_1]
  -- the claim
  have dx1 := dx.at (a + 1)
  have dm1 := dm.at (a + 1)
  have t1 : TX (hsI gx 11 0 1 (nI (a + 1))) (hsI gm 34 0 19 (nI (a + 1))) r N tx := t.fr (fail (a + 1)).1 (fail (a + 1)).2.1
  rw [dx1.2.2, dm1.2.2.2.2, x_fig t1 hN (by omega), bd_some, m_byte t1 hr hN (by omega), bd_some]
  have hw : (if a + 1 < N then tx (a + 1) else 0) - 48 = dgM N tx (a + 1) := rfl
  rw [hw, dm1.1, m_inn (by omega), bd_some, if10]
  have F1 := fail (a + 1)
  rcases dgM_cs (N := N) (tx := tx) (a := a + 1) with ⟨d, d10, q1, q2⟩ | ⟨q1, q2⟩
  rotate_left
  · have z : f_X6_takesReason 1 (dgX (dgt N tx (a + 1))) (hsI gx 11 0 1 (nI (a + 1))) = some (0, hsI gx 11 0 1 (nI (a + 1))) := by
      rw [q1]
      unfold f_X6_takesReason
      rw [dgX_n, if_pos (show (-9 : Int32) < 0 by decide), zn0]
    rw [z, bd_some, if_pos rfl, if_neg (fun w => by have := inb_iff.mp w; omega)]
    exact ⟨_, _, F1.1, F1.2.1, Or.inl ⟨a + 1, by omega, rfl, rfl, F1.2.2.1, F1.2.2.2⟩⟩
  rw [q1, dgX_s, x_takes v dx1.1 d10, bd_some, if10, q2, if_pos (inb_nI (show d < 10 by omega) (by omega)), nI_cl (by omega)]
  by_cases dn : d < P.n
  rotate_left
  · rw [if_neg (fun w => by unfold tkR at w; rw [decide_eq_false dn] at w; contradiction), if_neg (fun w => by have := inb_iff.mp w; rw [nI_toInt (by omega)] at this; omega)]
    exact ⟨_, _, F1.1, F1.2.1, Or.inl ⟨a + 1, by omega, rfl, rfl, F1.2.2.1, F1.2.2.2⟩⟩
  have hk5 := v.ki5 dn
  rw [if_pos (inb_nI dn (by omega)), dm1.2.2.1 d dn, m_isEndKind hk5, bd_some, if10]
  by_cases en : (decide (P.ki d = 1) || decide (P.ki d = 2)) = true
  · rw [if_neg (fun w => by
      unfold tkR isE at w
      rw [en] at w
      simp at w), if_pos en]
    exact ⟨_, _, F1.1, F1.2.1, Or.inl ⟨a + 1, by omega, rfl, rfl, F1.2.2.1, F1.2.2.2⟩⟩
  rw [if_neg en, m_readFor v dm1 d10, bd_some]
  have c4 := v.2.2.2.2 d
  by_cases tk : tkR P d = true
  rotate_left
  · have : cnt (fun k => decide (P.co k = d)) P.m = 4 := by
      apply Classical.byContradiction
      intro z
      apply tk
      unfold tkR isE
      rw [decide_eq_true dn, decide_eq_true (show cnt (fun k => decide (P.co k = d)) P.m < 4 by omega)]
      simpa using en
    rw [if_neg tk, this, if_pos (show nI 4 = (4 : Int32) from rfl)]
    exact ⟨_, _, F1.1, F1.2.1, Or.inl ⟨a + 1, by omega, rfl, rfl, F1.2.2.1, F1.2.2.2⟩⟩
  have tk4 : ¬ nI (cnt (fun k => decide (P.co k = d)) P.m) = (4 : Int32) := fun z => by
    have h1 := (nI_eq (b := 4) (by omega) (by omega)).mp z
    have h2 := tk
    unfold tkR at h2
    rw [h1] at h2
    simp at h2
  rw [if_pos tk, if_neg tk4, dx1.2.2, dm1.2.2.2.2, nI_1, hsI_hsI, hsI_hsI]
  -- how many
  have F2 := fail (a + 1 + 1)
  have dx2 := dx.at (a + 1 + 1)
  have dm2 := dm.at (a + 1 + 1)
  have t2 : TX (hsI gx 11 0 1 (nI (a + 1 + 1))) (hsI gm 34 0 19 (nI (a + 1 + 1))) r N tx := t.fr F2.1 F2.2.1
  rw [dx2.2.2, x_fig t2 hN (by omega), bd_some]
  obtain ⟨hm3, s3, o⟩ := m_figure hr hN (show a + 1 + 1 < 900 by omega) dm2 t2 (lo := 1) (hi := 3) (by omega) (by omega)
  have bd' : ∀ {X : AH → Prop}, X (hsI gx 11 0 1 (nI (a + 1 + 1))) → X (hsI gx 11 0 1 (nI (a + 1 + 1))) := fun h => h
  rcases o with ⟨q, o1, o2, o3, o4⟩ | ⟨o1, o2, o3⟩
  rotate_left
  · have o2' : f_X12_figure (nI r) 1 3 (hsI gm 34 0 19 (nI (a + 1 + 1))) = some (0, hm3) := o2
    rw [o2', bd_some, if_pos rfl]
    refine ⟨_, _, F2.1, F2.2.1.tr s3, Or.inl ⟨a + 1 + 1, by omega, ?_, rfl, F2.2.2.1, o3⟩⟩
    unfold sg at o1
    cases e : dgt N tx (a + 1 + 1) with
    | none => rw [dgX_n, if_pos (show (-9 : Int32) < 1 by decide)]
    | some q =>
      rw [e] at o1
      simp only at o1
      have hq := dgt_lt e
      rw [dgX_s]
      by_cases z1 : 1 ≤ q
      · have z2 : ¬ q ≤ 3 := fun z => by rw [if_pos ⟨z1, z⟩] at o1; contradiction
        rw [if_neg (show ¬ nI q < (1 : Int32) from fun z => by have := (nI_ltI (b := 1) (by omega) (by omega)).mp z; omega), if_neg (show ¬ nI q ≤ (3 : Int32) from fun z => by have := (nI_leI (b := 3) (by omega) (by omega)).mp z; omega)]
      · rw [if_pos (show nI q < (1 : Int32) from (nI_ltI (b := 1) (by omega) (by omega)).mpr (by omega))]
  have o2' : f_X12_figure (nI r) 1 3 (hsI gm 34 0 19 (nI (a + 1 + 1))) = some (1, hm3) := o2
  have hq : dgt N tx (a + 1 + 1) = some q ∧ 1 ≤ q ∧ q ≤ 3 := by
    unfold sg at o1
    cases e : dgt N tx (a + 1 + 1) with
    | none => rw [e] at o1; contradiction
    | some w =>
      rw [e] at o1
      simp only at o1
      split at o1
      · rename_i z
        injection o1 with o1
        subst o1
        exact ⟨rfl, z⟩
      · contradiction
  obtain ⟨hq0, hq1, hq3⟩ := hq
  have hq2 := dgt_lt hq0
  rw [o2', bd_some, if_neg i10, o4, hq0, dgX_s, if_neg (show ¬ nI q < (1 : Int32) from fun z => by have := (nI_ltI (b := 1) (by omega) (by omega)).mp z; omega), if_pos (show nI q ≤ (3 : Int32) from (nI_leI (b := 3) (by omega) (by omega)).mpr hq3), dx2.2.2, nI_1, hsI_hsI]
  -- the parts
  have F3 := fail (a + 1 + 1 + 1)
  have dx3 := dx.at (a + 1 + 1 + 1)
  have sm3 := F2.2.1.tr s3
  have t3 : TX (hsI gx 11 0 1 (nI (a + 1 + 1 + 1))) hm3 r N tx := t.fr F3.1 sm3
  unfold f_X4_readParts
  have xp := x_parts (hm := hm3) (P := P) (su := su) (r := r) (N := N) (tx := tx) hN hn (x := d) (M := q) d10 (by omega) q FU 0 (a + 1 + 1 + 1) 0 _ (by omega) (by show q < 5000; omega) (by omega) dx3 t3
  have xp' : l_X4_readParts_4 FU r (nI d) (nI q) 0 0 (hsI gx 11 0 1 (nI (a + 1 + 1 + 1))) = _ := xp
  have mp := m_parts (hx := hsI gx 11 0 1 (nI (a + 1 + 1 + 1))) (P := P) (su := su) (r := r) (N := N) (tx := tx) hr hN hn (x := d) d10 q FU (a + 1 + 1 + 1) 0 hm3 (by show q < 5000; omega) (by omega) (by omega) o3 t3
  rw [xp', bd_some, mp, hsI_hsI]
  cases e : pt N tx P.n d q (a + 1 + 1 + 1) 0 with
  | mk o b' =>
    have b900 : ∀ l b S, l ≤ 10 → (pt N tx P.n d l b S).2 ≤ b + l := by
      intro l
      induction l with
      | zero => intro b S _; exact Nat.le_refl _
      | succ l ih =>
        intro b S hl
        cases f : dgt N tx b with
        | none => rw [pt_none f]; show b ≤ _; omega
        | some w =>
          rw [pt_some f]
          split
          · have := ih (b + 1) (S ||| ((1 : Int32) <<< (nI w &&& 31))) (by omega)
            omega
          · show b ≤ _; omega
    have hb' := b900 q (a + 1 + 1 + 1) 0 (by omega)
    rw [e] at hb'
    have hb'' : b' ≤ a + 1 + 1 + 1 + q := hb'
    have F4 := fail b'
    have dx4 := dx.at b'
    have t4 : TX (hsI gx 11 0 1 (nI b')) hm3 r N tx := t.fr F4.1 sm3
    simp only
    rw [dx4.2.2, x_fig t4 hN (by omega), bd_some]
    cases o with
    | none =>
      show RdO gx gm N a (if (0 : Int32) = 0 then _ else _) _
      rw [if_pos rfl]
      exact ⟨_, _, F4.1, sm3.sI (by omega), Or.inl ⟨b', by omega, rfl, rfl, F4.2.2.1, by rw [hsI_1, if_pos ⟨rfl, rfl, rfl⟩]⟩⟩
    | some S =>
      obtain ⟨p1, p2, p3, p4, p5⟩ := pt_ok hn q (a + 1 + 1 + 1) 0 S b' e (fun i hi => by rw [bt_0] at hi; contradiction) (bt_0 d)
      have c0 : cnt (bt 0) 14 = 0 := (cnt0 (n := 14) (by omega) (fun i hi => by rw [bt_0] at hi; contradiction)).mpr rfl
      have Sne : ¬ S = 0 := fun z => by rw [z, c0] at p3; omega
      have t5 : TX (hsI gx 11 0 1 (nI b')) (hsI hm3 34 0 19 (nI b')) r N tx := t.fr F4.1 (sm3.sI (by omega))
      obtain ⟨hm5, s5, o⟩ := m_tail hr hN (show b' < 900 by omega) (show P.m < 14 by omega) (o3.at b') t5 (d := d) (S := S)
      have sm5 := (sm3.sI (show (45 ≤ 34 ∧ 34 ≤ 48) ∨ 55 ≤ 34 ∨ (34 = 34 ∧ ((19 ≤ 19 ∧ 19 ≤ 22) ∨ 19 = 38 ∨ 19 = 39)) by omega) (v := nI b')).tr s5
      show RdO gx gm N a (if S = 0 then _ else _) (tM r d S (hsI hm3 34 0 19 (nI b')))
      rw [if_neg Sne]
      rcases o with ⟨u, o5, o6, o7⟩ | ⟨o5, o6, o7⟩
      · have hu : dgt N tx b' = some u ∧ 1 ≤ u ∧ u ≤ 9 := by
          unfold sg at o5
          cases e2 : dgt N tx b' with
          | none => rw [e2] at o5; contradiction
          | some w =>
            rw [e2] at o5
            simp only at o5
            split at o5
            · rename_i z
              injection o5 with o5
              subst o5
              exact ⟨rfl, z⟩
            · contradiction
        have hu2 := dgt_lt hu.1
        obtain ⟨gx6, x1, x2, x3⟩ := x_addR (dx.at (b' + 1)) (show P.m < 14 by omega) d u S
        rw [hu.1, dgX_s, if_pos (show (1 : Int32) ≤ nI u from (nI_leI (a := 1) (by omega) (by omega)).mpr hu.2.1), dx4.2.2, nI_1, hsI_hsI, show (some S).getD 0 = S from rfl, x1, bd_some, zn1, o6]
        refine ⟨gx6, hm5, (fail (b' + 1)).1.tr x2, sm5, Or.inr ⟨b' + 1, addR P d S, su1 P su u, rfl, rfl, by omega, by omega, addR_v v (by omega) tk p1 p2 (by omega) (by omega), fun k hk => ?_, by show 0 < P.n; omega, x3, o7⟩⟩
        have hk' : k < P.m + 1 := hk
        unfold su1
        split
        · exact hu.2
        · exact sv k (by omega)
      · rw [o6]
        refine ⟨_, hm5, F4.1, sm5, Or.inl ⟨b', by omega, ?_, rfl, F4.2.2.1, o7⟩⟩
        unfold sg at o5
        cases e2 : dgt N tx b' with
        | none => rw [dgX_n, if_neg (show ¬ (1 : Int32) ≤ -9 by decide)]
        | some w =>
          rw [e2] at o5
          simp only at o5
          have hw2 := dgt_lt e2
          rw [dgX_s, if_neg (show ¬ (1 : Int32) ≤ nI w from fun z => by
            have := (nI_leI (a := 1) (by omega) (by omega)).mp z
            rw [if_pos ⟨this, by omega⟩] at o5
            contradiction)]
