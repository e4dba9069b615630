theorem m_room31 {h : AH} {P : PD} (hn : P.n ≤ 10) (e10 : h.1 34 0 10 = nI P.n) : l_X12_room_31 FU 0 h = some ((), hfl h 41 0 0 P.n (h.1 45 0)) := by
  have := lp0 (fun F j => l_X12_room_31 F (nI j) (hfl h 41 0 0 j (h.1 45 0))) P.n (some ((), hfl h 41 0 0 P.n (h.1 45 0))) (by
    intro F j hj
    show b_X12_room_31 (l_X12_room_31 F) (nI j) (hfl h 41 0 0 j (h.1 45 0)) = l_X12_room_31 F (nI (j + 1)) (hfl h 41 0 0 (j + 1) (h.1 45 0))
    have hb : inb (nI j) 10 = true := inb_nI (by omega) (by omega)
    rw [← hfl_s0]
    unfold b_X12_room_31
    rw [hfl_k (a := 34) (by decide), e10, if_neg (nI_ge hj (by omega)), if_pos hb, if_pos hb, nI_cl (by omega), nI_1, hfl_k (a := 45) (by decide)]) (by
    intro F
    show b_X12_room_31 (l_X12_room_31 F) (nI P.n) _ = _
    unfold b_X12_room_31
    rw [hfl_k (a := 34) (by decide), e10, if_pos (Int32.le_refl _)]) (by omega)
  simp only [nI_0, hfl_0] at this
  exact this
theorem m_room47 {h : AH} {P : PD} (hm : P.m ≤ 14) (e11 : h.1 34 0 11 = nI P.m) : ∃ h2, l_X12_room_47 FU 0 h = some ((), h2) ∧ (∀ k, k < P.m → h2.1 42 0 k = h.1 46 0 k ∧ h2.1 43 0 k = h.1 47 0 k ∧ h2.1 44 0 k = h.1 48 0 k) ∧ (∀ k, ¬ (42 ≤ k ∧ k ≤ 44) → h2.1 k = h.1 k) ∧ h2.2 = h.2 := by
  have := lpi (fun F (q : Int32 × AH) => l_X12_room_47 F q.1 q.2) P.m
    (fun j q => q.1 = nI j ∧ (∀ k, k < j → q.2.1 42 0 k = h.1 46 0 k ∧ q.2.1 43 0 k = h.1 47 0 k ∧ q.2.1 44 0 k = h.1 48 0 k) ∧ (∀ k, ¬ (42 ≤ k ∧ k ≤ 44) → q.2.1 k = h.1 k) ∧ q.2.2 = h.2)
    (fun o => ∃ h2, o = some ((), h2) ∧ (∀ k, k < P.m → h2.1 42 0 k = h.1 46 0 k ∧ h2.1 43 0 k = h.1 47 0 k ∧ h2.1 44 0 k = h.1 48 0 k) ∧ (∀ k, ¬ (42 ≤ k ∧ k ≤ 44) → h2.1 k = h.1 k) ∧ h2.2 = h.2) (by
    rintro F j ⟨i, w⟩ hj ⟨q1, q2, q3, q4⟩
    simp only at q1 q2 q3 q4
    subst q1
    right
    have hb : inb (nI j) 14 = true := inb_nI (by omega) (by omega)
    show ∃ t2 : Int32 × AH, _ ∧ b_X12_room_47 (l_X12_room_47 F) (nI j) w = l_X12_room_47 F t2.1 t2.2
    unfold b_X12_room_47
    rw [q3 34 (by omega), e11, if_neg (nI_ge hj (by omega))]
    simp only [if_pos hb, nI_cl (show j < 100000 by omega), nI_1, hsI_k (show (47 : Nat) ≠ 42 by decide), hsI_k (show (48 : Nat) ≠ 43 by decide), hsI_k (show (48 : Nat) ≠ 42 by decide)]
    refine ⟨(nI (j + 1), hsI (hsI (hsI w 42 0 j (w.1 46 0 j)) 43 0 j (w.1 47 0 j)) 44 0 j (w.1 48 0 j)), ⟨rfl, fun k hk => ?_, fun k hk => ?_, q4⟩, rfl⟩
    · show (hsI (hsI (hsI w 42 0 j (w.1 46 0 j)) 43 0 j (w.1 47 0 j)) 44 0 j (w.1 48 0 j)).1 42 0 k = _ ∧ (hsI (hsI (hsI w 42 0 j (w.1 46 0 j)) 43 0 j (w.1 47 0 j)) 44 0 j (w.1 48 0 j)).1 43 0 k = _ ∧ (hsI (hsI (hsI w 42 0 j (w.1 46 0 j)) 43 0 j (w.1 47 0 j)) 44 0 j (w.1 48 0 j)).1 44 0 k = _
      rw [q3 46 (by omega), q3 47 (by omega), q3 48 (by omega)]
      by_cases e : k = j
      · refine ⟨?_, ?_, ?_⟩
        · rw [hsI_k (by decide), hsI_k (by decide), hsI_1, if_pos ⟨rfl, rfl, e⟩, e]
        · rw [hsI_k (by decide), hsI_1, if_pos ⟨rfl, rfl, e⟩, e]
        · rw [hsI_1, if_pos ⟨rfl, rfl, e⟩, e]
      · obtain ⟨z1, z2, z3⟩ := q2 k (by omega)
        refine ⟨?_, ?_, ?_⟩
        · rw [hsI_k (by decide), hsI_k (by decide), hsI_1, if_neg (fun z => e z.2.2)]; exact z1
        · rw [hsI_k (by decide), hsI_1, if_neg (fun z => e z.2.2), hsI_k (by decide)]; exact z2
        · rw [hsI_1, if_neg (fun z => e z.2.2), hsI_k (by decide), hsI_k (by decide)]; exact z3
    · show (hsI (hsI (hsI w 42 0 j (w.1 46 0 j)) 43 0 j (w.1 47 0 j)) 44 0 j (w.1 48 0 j)).1 k = _
      rw [hsI_k (by omega), hsI_k (by omega), hsI_k (by omega)]; exact q3 k hk) (by
    rintro F ⟨i, w⟩ ⟨q1, q2, q3, q4⟩
    simp only at q1 q2 q3 q4
    subst q1
    show ∃ h2, b_X12_room_47 (l_X12_room_47 F) (nI P.m) w = _ ∧ _
    unfold b_X12_room_47
    rw [q3 34 (by omega), e11, if_pos (Int32.le_refl _)]
    exact ⟨w, rfl, q2, q3, q4⟩) (by omega) (0, h) ⟨rfl, fun k hk => by omega, fun _ _ => rfl, rfl⟩
  exact this
theorem m_room91 (h : AH) : l_X12_room_91 FU 0 h = some ((), hfl h 50 0 0 3 (fun _ => 0)) := by
  have := lp0 (fun F j => l_X12_room_91 F (nI j) (hfl h 50 0 0 j (fun _ => 0))) 3 (some ((), hfl h 50 0 0 3 (fun _ => 0))) (by
    intro F j hj
    show b_X12_room_91 (l_X12_room_91 F) (nI j) _ = l_X12_room_91 F (nI (j + 1)) _
    rw [← hfl_s0]
    unfold b_X12_room_91
    rw [if_neg (show ¬ (3 : Int32) ≤ nI j from nI_ge (b := 3) hj (by omega)), if_pos (inb_nI hj (by omega)), nI_cl (by omega), nI_1, zn0]) (by
    intro F
    show b_X12_room_91 (l_X12_room_91 F) (nI 3) _ = _
    unfold b_X12_room_91
    rw [if_pos (show (3 : Int32) ≤ nI 3 by decide)]) (by omega)
  simp only [nI_0, hfl_0] at this
  exact this
theorem m_room {h : AH} {P : PD} {su : Nat → Nat} {a : Nat} (v : PV P) (c : DM h P su a) : ∃ h9, bd (l_X12_room_31 FU (0 : Int32) (hsI (hsI h 34 0 10 (h.1 34 0 21)) 34 0 11 ((hsI h 34 0 10 (h.1 34 0 21)).1 34 0 22))) (fun v h => c_X12_room_45 h) = some (nI P.n, h9) ∧ MPl h9 P ∧ MSt h9 P (s0 su) ∧ (∀ c, c < 3 → h9.1 50 0 c = 0) ∧ (∀ k, ¬ (34 ≤ k ∧ k ≤ 34 ∨ 41 ≤ k ∧ k ≤ 44 ∨ k = 50) → h9.1 k = h.1 k) ∧ (∀ c, c < 10 → h9.1 34 0 c = h.1 34 0 c) ∧ h9.2 = h.2 := by
  obtain ⟨c1, c2, c3, c4, c5⟩ := c
  have hn := v.n10
  have hm := v.m14
  have e22 : (hsI h 34 0 10 (h.1 34 0 21)).1 34 0 22 = nI P.m := by rw [hsI_1, if_neg (by omega)]; exact c2
  rw [e22, c1]
  have e10 : (hsI (hsI h 34 0 10 (nI P.n)) 34 0 11 (nI P.m)).1 34 0 10 = nI P.n := by rw [hsI_1, if_neg (by omega), hsI_1, if_pos ⟨rfl, rfl, rfl⟩]
  have e11 : (hsI (hsI h 34 0 10 (nI P.n)) 34 0 11 (nI P.m)).1 34 0 11 = nI P.m := by rw [hsI_1, if_pos ⟨rfl, rfl, rfl⟩]
  have k1 : ∀ k, k ≠ 34 → (hsI (hsI h 34 0 10 (nI P.n)) 34 0 11 (nI P.m)).1 k = h.1 k := fun k hk => by rw [hsI_k hk, hsI_k hk]
  have s1 : ∀ c, c < 10 → (hsI (hsI h 34 0 10 (nI P.n)) 34 0 11 (nI P.m)).1 34 0 c = h.1 34 0 c := fun c hc => by rw [hsI_1, if_neg (by omega), hsI_1, if_neg (by omega)]
  have l1 : (hsI (hsI h 34 0 10 (nI P.n)) 34 0 11 (nI P.m)).2 = h.2 := rfl
  generalize hsI (hsI h 34 0 10 (nI P.n)) 34 0 11 (nI P.m) = g at e10 e11 k1 s1 l1
  rw [m_room31 hn e10, bd_some]
  unfold c_X12_room_45
  obtain ⟨g2, z1, z2, z3, z4⟩ := m_room47 (h := hfl g 41 0 0 P.n (g.1 45 0)) hm (by rw [hfl_k (by decide)]; exact e11)
  rw [z1, bd_some]
  unfold c_X12_room_77
  rw [m_room91, bd_some]
  unfold c_X12_room_101
  have g41 : ∀ k, ¬ (41 ≤ k ∧ k ≤ 44) → g2.1 k = g.1 k := fun k hk => by rw [z3 k (by omega), hfl_k (by omega)]
  have r34 : ∀ c, c ≠ 16 → c ≠ 17 → c ≠ 18 → c ≠ 27 → (hfl (hsI (hsI (hsI (hsI g2 34 0 16 0) 34 0 17 0) 34 0 18 0) 34 0 27 0) 50 0 0 3 (fun _ => 0)).1 34 0 c = g.1 34 0 c := fun c h1 h2 h3 h4 => by
    rw [hfl_k (by decide), hsI_1, if_neg (by omega), hsI_1, if_neg (by omega), hsI_1, if_neg (by omega), hsI_1, if_neg (by omega), g41 34 (by omega)]
  have rk : ∀ k, k ≠ 34 → k ≠ 50 → (hfl (hsI (hsI (hsI (hsI g2 34 0 16 0) 34 0 17 0) 34 0 18 0) 34 0 27 0) 50 0 0 3 (fun _ => 0)).1 k = g2.1 k := fun k h1 h2 => by
    rw [hfl_k h2, hsI_k h1, hsI_k h1, hsI_k h1, hsI_k h1]
  rw [r34 10 (by omega) (by omega) (by omega) (by omega), e10]
  refine ⟨_, rfl, ⟨?_, ?_, ?_, ?_⟩, ⟨?_, ?_, ?_, ?_, ?_, fun i hi => absurd hi (Nat.not_lt_zero _)⟩, ?_, ?_, ?_, ?_⟩
  · rw [r34 10 (by omega) (by omega) (by omega) (by omega)]; exact e10
  · rw [r34 11 (by omega) (by omega) (by omega) (by omega)]; exact e11
  · intro x hx
    rw [rk 41 (by omega) (by omega), z3 41 (by omega), hfl_1, if_pos (by omega), k1 45 (by omega)]
    exact c3 x hx
  · intro k hk
    rw [rk 42 (by omega) (by omega), rk 43 (by omega) (by omega), (z2 k hk).1, (z2 k hk).2.1, hfl_k (by decide), hfl_k (by decide), k1 46 (by omega), k1 47 (by omega)]
    exact ⟨(c4 k hk).1, (c4 k hk).2.1⟩
  · rw [hfl_k (by decide), hsI_1, if_pos ⟨rfl, rfl, rfl⟩]; rfl
  · rw [hfl_k (by decide), hsI_1, if_neg (by omega), hsI_1, if_neg (by omega), hsI_1, if_neg (by omega), hsI_1, if_pos ⟨rfl, rfl, rfl⟩]; rfl
  · rw [hfl_k (by decide), hsI_1, if_neg (by omega), hsI_1, if_neg (by omega), hsI_1, if_pos ⟨rfl, rfl, rfl⟩]; rfl
  · rw [hfl_k (by decide), hsI_1, if_neg (by omega), hsI_1, if_pos ⟨rfl, rfl, rfl⟩]; rfl
  · intro k hk
    rw [rk 44 (by omega) (by omega), (z2 k hk).2.2, hfl_k (by decide), k1 48 (by omega)]
    exact (c4 k hk).2.2
  · intro c hc
    rw [hfl_1, if_pos (by omega)]
  · intro k hk
    rw [rk k (by omega) (by omega), g41 k (by omega), k1 k (by omega)]
  · intro c hc
    rw [r34 c (by omega) (by omega) (by omega) (by omega), s1 c hc]
  · show g2.2 = h.2
    rw [z4]; exact l1
theorem e_room : E1 Rel f_X11_room f_X12_room := by
  intro a hx hm h
  show OR _ _
  have b := h.1
  unfold f_X11_room f_X12_room
  rw [x_isText, m_isText, bd_some, bd_some, if10, if10]
  by_cases hb : inb a 4 = true
  rotate_left
  · rw [if_neg hb, if_neg hb]; exact OR.same h rfl rfl
  obtain ⟨r, hr, rfl⟩ := inb_ex hb
  simp only [if_pos hb, nI_cl (show r < 100000 by omega), x_isMissT, bd_some, if10, x_ref1, m_me1]
  rcases b.text hr with ⟨e1, e2⟩ | ⟨N, hN, e1, e2, f, g, k⟩
  · simp only [e1, e2, if_true, if_neg neg1]
    exact OR.find h (f := 1) (by omega) rfl rfl
  · simp only [e1, e2, if_neg f, if_pos g]
    obtain ⟨v, gx2, gm2, z1, z2, z3, z4, z5⟩ := read_all hr hN (TX.of b hr hN e1 e2)
    rw [z1, z2, bd_some, bd_some]
    by_cases e : v = -9
    rotate_left
    · rw [if_neg e, if_neg e]
      exact OR.same (h.rx z3 z4) rfl rfl
    · rw [if_pos e, if_pos e]
      obtain ⟨P2, su2, a2, pv, sv, pn, dx, dm⟩ := z5 e
      obtain ⟨hx9, x1, x2, x3, x4, x5, x6⟩ := x_room pv dx
      obtain ⟨hm9, m1, m2, m3, m4, m5, m6, m7⟩ := m_room pv dm
      rw [x1, m1]
      have b2 := b.rx z3 z4
      obtain ⟨⟨a1, a2', a3, a4, a5⟩, a6, a7⟩ := b2
      refine ⟨nI P2.n, hx9, hm9, rfl, rfl, ⟨⟨?_, ?_, ?_, ?_, ?_⟩, a6.fr (x5 2 (by omega)) (x5 3 (by omega)) (m5 36 (by omega)) (m5 37 (by omega)), a7.fr (x5 5 (by omega)) (x5 6 (by omega)) (m5 39 (by omega)) (m5 40 (by omega))⟩, P2, s0 su2, pv, ⟨?_, ?_, ?_, ?_, ?_, ?_⟩, x2, m2, x3, m3, fun c hc => Or.inl ⟨x4 c hc, m4 c hc⟩⟩
      · rw [x5 0 (by omega), m6 0 (by omega)]; exact a1
      · rw [x5 0 (by omega), m6 2 (by omega)]; exact a2'
      · rw [x6, m7]; exact a3
      · rw [x6, m7]; exact a4
      · rw [x5 33 (by omega), m5 35 (by omega)]; exact a5
      · exact fun i hi => by
          have : bt 0 i = true := hi
          rw [bt_0] at this; contradiction
      · exact fun i hi => by
          have : bt 0 i = true := hi
          rw [bt_0] at this; contradiction
      · exact Nat.zero_le _
      · exact Nat.zero_le _
      · exact sv
      · exact fun i hi => absurd hi (Nat.not_lt_zero _)
