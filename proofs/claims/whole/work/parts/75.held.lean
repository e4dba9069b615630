/-! ===== held, lied ===== -/
def clI (p : PD) (v : Nat → Nat) : Nat → Int32
  | 0 => 0
  | i + 1 => clI p v i ||| (if i % 2 = 1 then p.pa (v i) else (1 : Int32) <<< (nI (v i) &&& 31))
def rsI (v : Nat → Nat) : Nat → Int32
  | 0 => 0
  | i + 1 => rsI v i ||| (if i % 2 = 1 then (1 : Int32) <<< (nI (v i) &&& 31) else 0)
def rsO (v : Nat → Nat) : Nat → Int32
  | 0 => 0
  | i + 1 => rsO v i ||| ((1 : Int32) <<< (nI (v (2 * i + 1)) &&& 31))
theorem rs_eq (v : Nat → Nat) : ∀ q, rsI v (2 * q + 1) = rsO v q
  | 0 => by
    show (0 : Int32) ||| (if 0 % 2 = 1 then _ else 0) = 0
    rw [if_neg (by omega), or0]
  | q + 1 => by
    have ih := rs_eq v q
    show rsI v (2 * q + 1 + 1 + 1) = _
    show (rsI v (2 * q + 1) ||| (if (2 * q + 1) % 2 = 1 then _ else _)) ||| (if (2 * q + 1 + 1) % 2 = 1 then _ else 0) = _
    rw [if_pos (by omega), if_neg (by omega), or0, ih]
    rfl
theorem x_reasonsIn {hx hm : AH} {p : PD} {r q : Nat} {v : Nat → Nat} (t : TL hx hm p r q v) : f_X8_reasonsIn r hx = some (rsO v q, hx) := by
  obtain ⟨hr, hq, t1, t2, t3⟩ := t
  unfold f_X8_reasonsIn
  have := lp0 (fun F i => l_X8_reasonsIn_4 F r (rsO v i) (nI (2 * i + 1)) hx) q (some (rsO v q, hx)) (by
    intro F i hi
    show b_X8_reasonsIn_4 (l_X8_reasonsIn_4 F) r _ (nI (2 * i + 1)) hx = l_X8_reasonsIn_4 F r (rsO v i ||| ((1 : Int32) <<< (nI (v (2 * i + 1)) &&& 31))) (nI (2 * (i + 1) + 1)) hx
    unfold b_X8_reasonsIn_4
    rw [t1, if_neg (nI_ge (by omega) (by omega)), if_pos (inb_nI (by omega) (by omega)), nI_cl (by omega), (t3 (2 * i + 1) (by omega)).1, show nI (2 * i + 1) + (2 : Int32) = nI (2 * i + 1 + 2) from nI_add (2 * i + 1) 2]
    rfl) (by
    intro F
    show b_X8_reasonsIn_4 (l_X8_reasonsIn_4 F) r _ (nI (2 * q + 1)) hx = _
    unfold b_X8_reasonsIn_4
    rw [t1, if_pos (Int32.le_refl _)]) (by omega)
  have this' : l_X8_reasonsIn_4 FU r 0 1 hx = some (rsO v q, hx) := this
  rw [this']
  rfl
theorem x_claimsIn {hx hm g : AH} {p : PD} {s : SD} {r q : Nat} {v : Nat → Nat} (t : TL hx hm p r q v) (c : XC g p s) (k2 : g.1 2 = hx.1 2) (k3 : g.1 3 = hx.1 3) : f_X8_claimsIn r g = some (clI p v (2 * q + 1), g) := by
  obtain ⟨hr, hq, t1, t2, t3⟩ := t
  have hM := c.1.m14
  unfold f_X8_claimsIn
  have := lp0 (fun F i => l_X8_claimsIn_4 F r (clI p v i) (nI i) g) (2 * q + 1) (some (clI p v (2 * q + 1), g)) (by
    intro F i hi
    show b_X8_claimsIn_4 (l_X8_claimsIn_4 F) r _ (nI i) g = l_X8_claimsIn_4 F r (clI p v i ||| (if i % 2 = 1 then p.pa (v i) else (1 : Int32) <<< (nI (v i) &&& 31))) (nI (i + 1)) g
    have a := t3 i hi
    have e3 : (nI (i % 2) = 1) ↔ i % 2 = 1 := nI_eq (b := 1) (by omega) (by omega)
    unfold b_X8_claimsIn_4
    rw [k2, t1, if_neg (nI_ge hi (by omega)), if_pos (inb_nI (by omega) (by omega)), nI_cl (by omega), (d2 i (by omega)).2, k3, a.1, nI_1]
    by_cases o : i % 2 = 1
    · have ho := a.2.2.2 o
      rw [if_pos (e3.mpr o), if_pos o, if_pos (inb_nI (by omega) (by omega)), nI_cl (by omega), c.pa ho]
    · rw [if_neg (fun z => o (e3.mp z)), if_neg o]) (by
    intro F
    show b_X8_claimsIn_4 (l_X8_claimsIn_4 F) r _ (nI (2 * q + 1)) g = _
    unfold b_X8_claimsIn_4
    rw [k2, t1, if_pos (Int32.le_refl _)]) (by omega)
  have this' : l_X8_claimsIn_4 FU r 0 0 g = some (clI p v (2 * q + 1), g) := this
  rw [this']
  rfl
theorem m_heldL {hx hm : AH} {p : PD} {s : SD} {r q : Nat} {v : Nat → Nat} (t : TL hx hm p r q v) (c : MC hm p s) : l_X12_held_14 FU (nI r) 0 0 0 hm = some ((clI p v (2 * q + 1), rsI v (2 * q + 1)), hm) := by
  obtain ⟨hr, hq, t1, t2, t3⟩ := t
  have hM := c.1.m14
  have := lp0 (fun F i => l_X12_held_14 F (nI r) (clI p v i) (rsI v i) (nI i) hm) (2 * q + 1) (some ((clI p v (2 * q + 1), rsI v (2 * q + 1)), hm)) (by
    intro F i hi
    show b_X12_held_14 (l_X12_held_14 F) (nI r) _ _ (nI i) hm = l_X12_held_14 F (nI r) (clI p v i ||| (if i % 2 = 1 then p.pa (v i) else (1 : Int32) <<< (nI (v i) &&& 31))) (rsI v i ||| (if i % 2 = 1 then (1 : Int32) <<< (nI (v i) &&& 31) else 0)) (nI (i + 1)) hm
    have a := t3 i hi
    have e3 : (nI (i % 2) = 1) ↔ i % 2 = 1 := nI_eq (b := 1) (by omega) (by omega)
    have e4 : (nI (i % 2) = 0) ↔ i % 2 = 0 := nI_eq0 (by omega)
    unfold b_X12_held_14
    simp only [if_pos (inb_nI hr (show 6 ≤ 100000 by omega)), nI_cl (show r < 100000 by omega), t2, if_neg (nI_ge hi (show 2 * q + 1 < 2 ^ 31 by omega)), (d2 i (by omega)).2, m_rowAt hr (show i < 40 by omega), bd_some, a.2.1, nI_1]
    by_cases o : i % 2 = 1
    · have ho := a.2.2.2 o
      rw [if_neg (fun z => by have := e4.mp z; omega), if_pos (inb_nI (by omega) (by omega)), if_pos (e3.mpr o), if_pos o, if_pos o, nI_cl (by omega), c.pa ho]
    · rw [if_pos (e4.mpr (by omega)), if_neg (fun z => o (e3.mp z)), if_neg o, if_neg o]) (by
    intro F
    show b_X12_held_14 (l_X12_held_14 F) (nI r) _ _ (nI (2 * q + 1)) hm = _
    unfold b_X12_held_14
    rw [if_pos (inb_nI hr (by omega)), nI_cl (by omega), t2, if_pos (Int32.le_refl _)]) (by omega)
  exact this
theorem e_held : E1 Rel f_X11_held f_X12_held := by
  intro a hx hm h
  show OR _ _
  obtain ⟨b, p, s, d⟩ := h
  have h : Rel hx hm := ⟨b, p, s, d⟩
  have hn := d.1.n10
  have hM := d.1.m14
  unfold f_X11_held f_X12_held
  rcases tale b d a with ⟨e, hx2, hm2, e1, e2, e3, e4, e5⟩ | ⟨r, q, v, rfl, t, e1, e2⟩
  · rw [e1, e2, bd_some, bd_some, if_neg e3, if_neg e4]
    exact OR.same e5 rfl rfl
  · have hr := t.1
    have hb : inb (nI r) 6 = true := inb_nI hr (by omega)
    have c2 := d.x.fr (KX.told (hx := hx) (ST p (bt s.aw) (bt (rsO v q))))
    rw [e1, e2, bd_some, bd_some, if_pos rfl, if_pos hb, if_pos (show (0 : Int32) ≤ 0 by decide), nI_cl (by omega), x_reasonsIn t, bd_some, d.x.aw, x_standingBy d.x, bd_some, if_pos hb, x_claimsIn t c2 (hsI_k (by decide)) (hsI_k (by decide)), bd_some, m_heldL t d.m, bd_some]
    unfold c_X12_held_59
    rw [m_allC d.m, bd_some, m_standing d.m, bd_some, m_tells, bd_some, rs_eq]
    have : ST p (gM s (AL p.n)) (bt (rsO v q)) = ST p (bt s.aw) (bt (rsO v q)) := ST_c d.1 (fun x hx => by
      rw [gM, bt_AL (by omega) (by omega), decide_eq_true hx]; rfl) (fun _ _ => rfl)
    rw [this]
    exact OR.told h _ rfl rfl
theorem cntF : ∀ n, cnt (fun _ => false) n = 0
  | 0 => rfl
  | n + 1 => by show cnt (fun _ => false) n + (if false = true then 1 else 0) = 0; rw [cntF n, if_neg (by decide)]
theorem cnt_0 {C : Nat → Bool} {i : Nat} : cnt C i = 0 ↔ ∀ k, k < i → C k = false := by
  constructor
  · intro z k hk
    cases e : C k
    · rfl
    · have := cnt_lt (P := fun _ => false) (Q := C) (fun _ z => by contradiction) i k hk rfl e
      omega
  · intro z
    rw [cnt_c (P := C) (Q := fun _ => false) i (fun k hk => z k hk)]
    exact cntF i
theorem fs_step (C : Nat → Bool) (i : Nat) : fsN C (i + 1) = if C i = true then (if cnt C i = 0 then nI i else fsN C i) else fsN C i := by
  unfold fsN
  show oI (if C i = true then (match tU C (fun _ => 0) i with | none => some i | some y => if 0 ≤ 0 then some y else some i) else tU C (fun _ => 0) i) = _
  have hg := tU_g C (fun _ => 0) i
  by_cases e : C i = true
  · rw [if_pos e, if_pos e]
    cases f : tU C (fun _ => 0) i with
    | none =>
      rw [f] at hg
      rw [if_pos (cnt_0.mpr (fun k hk => hg k (Nat.zero_le _) hk))]
      rfl
    | some y =>
      rw [f] at hg
      have h9 := hg.2.2.1
      rw [if_neg (fun z => by rw [cnt_0.mp z y hg.2.1] at h9; contradiction)]
      rfl
  · rw [if_neg e, if_neg e]
/-! lies -/
def lie (p : PD) (v : Nat → Nat) (i : Nat) : Bool := !decide (p.co (v (2 * i + 1)) = v (2 * i))
theorem x_liesIn {hx hm : AH} {p : PD} {s : SD} {r q : Nat} {v : Nat → Nat} (t : TL hx hm p r q v) (c : XC hx p s) : ∃ h2, f_X8_liesIn r hx = some (nI (cnt (lie p v) q), h2) ∧ SX hx h2 ∧ h2.1 28 0 4 = fsN (lie p v) q := by
  obtain ⟨hr, hq, t1, t2, t3⟩ := t
  have hM := c.1.m14
  have hn := c.1.n10
  unfold f_X8_liesIn
  have s0 : SX hx (hsI hx 28 0 4 (-9)) := SX.rfl.sI (by omega)
  have := lpi (fun F (z : Int32 × Int32 × AH) => l_X8_liesIn_7 F r z.1 z.2.1 z.2.2) q
    (fun i z => z.1 = nI (cnt (lie p v) i) ∧ z.2.1 = nI (2 * i + 1) ∧ SX hx z.2.2 ∧ z.2.2.1 28 0 4 = fsN (lie p v) i)
    (fun o => ∃ h2, o = some (nI (cnt (lie p v) q), h2) ∧ SX hx h2 ∧ h2.1 28 0 4 = fsN (lie p v) q) (by
    rintro F i ⟨n, x, g⟩ hi ⟨q1, q2, q3, q4⟩
    simp only at q1 q2 q3 q4
    subst q1 q2
    right
    have ck := c.fr q3.k
    have a0 := t3 (2 * i) (by omega)
    have a1 := t3 (2 * i + 1) (by omega)
    have v0 := a0.2.2.1 (by omega)
    have v1 := a1.2.2.2 (by omega)
    have h10 := c.1.co10 v1
    have hc := cnt_le (lie p v) i
    show ∃ t2 : Int32 × Int32 × AH, _ ∧ b_X8_liesIn_7 (l_X8_liesIn_7 F) r _ (nI (2 * i + 1)) g = l_X8_liesIn_7 F r t2.1 t2.2.1 t2.2.2
    unfold b_X8_liesIn_7
    have g2 : g.1 2 = hx.1 2 := q3.1 2 (by omega)
    have g3 : g.1 3 = hx.1 3 := q3.1 3 (by omega)
    rw [g2, t1, if_neg (nI_ge (by omega) (by omega)), if_pos (inb_nI (show 2 * i + 1 < 40 by omega) (by omega)), nI_cl (show 2 * i + 1 < 100000 by omega), nI_sub1 (by omega), show 2 * i + 1 - 1 = 2 * i by omega, if_pos (inb_nI (show 2 * i < 40 by omega) (by omega)), nI_cl (show 2 * i < 100000 by omega), g3, a0.1, a1.1, if_pos (inb_nI (show v (2 * i + 1) < 14 by omega) (by omega)), nI_cl (show v (2 * i + 1) < 100000 by omega), ck.co v1, (d2 (2 * i + 1) (by omega)).1, show (2 * i + 1) / 2 = i by omega, show nI (2 * i + 1) + (2 : Int32) = nI (2 * (i + 1) + 1) from nI_add (2 * i + 1) 2, nI_1, hsI_self]
    have hs : cnt (lie p v) (i + 1) = cnt (lie p v) i + (if lie p v i = true then 1 else 0) := rfl
    have hf := fs_step (lie p v) i
    have e1 : (nI (p.co (v (2 * i + 1))) = nI (v (2 * i))) ↔ p.co (v (2 * i + 1)) = v (2 * i) := nI_eq (by omega) (by omega)
    by_cases e : p.co (v (2 * i + 1)) = v (2 * i)
    · rw [if_pos (e1.mpr e)]
      have hl : ¬ lie p v i = true := by unfold lie; rw [decide_eq_true e]; decide
      refine ⟨(nI (cnt (lie p v) i), nI (2 * (i + 1) + 1), g), ⟨?_, rfl, q3, ?_⟩, rfl⟩
      · show nI (cnt (lie p v) i) = nI (cnt (lie p v) (i + 1))
        rw [hs, if_neg hl]; rfl
      · rw [hf, if_neg hl]; exact q4
    · rw [if_neg (fun z => e (e1.mp z))]
      have hl : lie p v i = true := by unfold lie; rw [decide_eq_false e]; rfl
      by_cases f : cnt (lie p v) i = 0
      · rw [if_pos ((nI_eq0 (by omega)).mpr f)]
        refine ⟨(nI (cnt (lie p v) i + 1), nI (2 * (i + 1) + 1), hsI g 28 0 4 (nI i)), ⟨?_, rfl, q3.sI (by omega), ?_⟩, rfl⟩
        · show nI (cnt (lie p v) i + 1) = nI (cnt (lie p v) (i + 1))
          rw [hs, if_pos hl]
        · show (hsI g 28 0 4 (nI i)).1 28 0 4 = _
          rw [hsI_1, if_pos ⟨rfl, rfl, rfl⟩, hf, if_pos hl, if_pos f]
      · rw [if_neg (fun z => f ((nI_eq0 (by omega)).mp z))]
        refine ⟨(nI (cnt (lie p v) i + 1), nI (2 * (i + 1) + 1), g), ⟨?_, rfl, q3, ?_⟩, rfl⟩
        · show nI (cnt (lie p v) i + 1) = nI (cnt (lie p v) (i + 1))
          rw [hs, if_pos hl]
        · rw [hf, if_pos hl, if_neg f]; exact q4) (by
    rintro F ⟨n, x, g⟩ ⟨q1, q2, q3, q4⟩
    simp only at q1 q2 q3 q4
    subst q1 q2
    show ∃ h2, b_X8_liesIn_7 (l_X8_liesIn_7 F) r _ (nI (2 * q + 1)) g = _ ∧ _
    unfold b_X8_liesIn_7
    have g2 : g.1 2 = hx.1 2 := q3.1 2 (by omega)
    rw [g2, t1, if_pos (Int32.le_refl _)]
    exact ⟨g, rfl, q3, q4⟩) (by omega) (0, 1, hsI hx 28 0 4 (-9)) ⟨rfl, rfl, s0, by
      show (hsI hx 28 0 4 (-9)).1 28 0 4 = _
      rw [hsI_1, if_pos ⟨rfl, rfl, rfl⟩]; rfl⟩
  obtain ⟨h2, z1, z2, z3⟩ := this
  have z1' : l_X8_liesIn_7 FU r 0 1 (hsI hx 28 0 4 (-9)) = some (nI (cnt (lie p v) q), h2) := z1
  rw [z1']
  exact ⟨h2, rfl, z2, z3⟩
theorem m_liesL {hx hm : AH} {p : PD} {s : SD} {r q : Nat} {v : Nat → Nat} (t : TL hx hm p r q v) (c : MC hm p s) : l_X12_lied_14 FU (nI r) 0 (-9) 1 hm = some ((nI (cnt (lie p v) q), fsN (lie p v) q), hm) := by
  obtain ⟨hr, hq, t1, t2, t3⟩ := t
  have hM := c.1.m14
  have hn := c.1.n10
  have := lp0 (fun F i => l_X12_lied_14 F (nI r) (nI (cnt (lie p v) i)) (fsN (lie p v) i) (nI (2 * i + 1)) hm) q (some ((nI (cnt (lie p v) q), fsN (lie p v) q), hm)) (by
    intro F i hi
    show b_X12_lied_14 (l_X12_lied_14 F) (nI r) _ _ (nI (2 * i + 1)) hm = l_X12_lied_14 F (nI r) _ _ (nI (2 * (i + 1) + 1)) hm
    have a0 := t3 (2 * i) (by omega)
    have a1 := t3 (2 * i + 1) (by omega)
    have v0 := a0.2.2.1 (by omega)
    have v1 := a1.2.2.2 (by omega)
    have h10 := c.1.co10 v1
    have hc := cnt_le (lie p v) i
    unfold b_X12_lied_14
    rw [if_pos (inb_nI hr (by omega)), nI_cl (show r < 100000 by omega), t2, if_neg (nI_ge (by omega) (by omega)), m_rowAt hr (by omega), bd_some, a1.2.1, if_pos (inb_nI (show v (2 * i + 1) < 14 by omega) (by omega)), nI_sub1 (by omega), show 2 * i + 1 - 1 = 2 * i by omega, m_rowAt hr (by omega), bd_some, a0.2.1, nI_cl (show v (2 * i + 1) < 100000 by omega), c.co v1, (d2 (2 * i + 1) (by omega)).1, show (2 * i + 1) / 2 = i by omega, show nI (2 * i + 1) + (2 : Int32) = nI (2 * (i + 1) + 1) from nI_add (2 * i + 1) 2, nI_1, fs_step, Int32.add_zero]
    have hs : cnt (lie p v) (i + 1) = cnt (lie p v) i + (if lie p v i = true then 1 else 0) := rfl
    rw [hs]
    have e1 : (nI (p.co (v (2 * i + 1))) = nI (v (2 * i))) ↔ p.co (v (2 * i + 1)) = v (2 * i) := nI_eq (by omega) (by omega)
    by_cases e : p.co (v (2 * i + 1)) = v (2 * i)
    · have hl : ¬ lie p v i = true := by unfold lie; rw [decide_eq_true e]; decide
      simp only [if_pos (e1.mpr e), if_neg hl, Nat.add_zero]
    · have hl : lie p v i = true := by unfold lie; rw [decide_eq_false e]; rfl
      rw [if_neg (fun z => e (e1.mp z)), if_pos hl, if_pos hl]
      by_cases f : cnt (lie p v) i = 0
      · rw [if_pos ((nI_eq0 (by omega)).mpr f), if_pos f]
      · rw [if_neg (fun z => f ((nI_eq0 (by omega)).mp z)), if_neg f]) (by
    intro F
    show b_X12_lied_14 (l_X12_lied_14 F) (nI r) _ _ (nI (2 * q + 1)) hm = _
    unfold b_X12_lied_14
    rw [if_pos (inb_nI hr (by omega)), nI_cl (by omega), t2, if_pos (Int32.le_refl _)]) (by omega)
  exact this
theorem e_lied : E1 Rel f_X11_lied f_X12_lied := by
  intro a hx hm h
  show OR _ _
  obtain ⟨b, p, s, d⟩ := h
  have h : Rel hx hm := ⟨b, p, s, d⟩
  unfold f_X11_lied f_X12_lied
  rcases tale b d a with ⟨e, hx2, hm2, e1, e2, e3, e4, e5⟩ | ⟨r, q, v, rfl, t, e1, e2⟩
  · rw [e1, e2, bd_some, bd_some, if_neg e3, if_neg e4]
    exact OR.same e5 rfl rfl
  · have hr := t.1
    have hb : inb (nI r) 6 = true := inb_nI hr (by omega)
    obtain ⟨h2, z1, z2, z3⟩ := x_liesIn t d.x
    rw [e1, e2, bd_some, bd_some, if_pos rfl, if_pos hb, if_pos (show (0 : Int32) ≤ 0 by decide), nI_cl (by omega), z1, bd_some, z3, m_liesL t d.m, bd_some]
    unfold c_X12_lied_58
    rw [m_tells, bd_some]
    exact OR.told (h.sc z2 SM.rfl) _ rfl rfl
