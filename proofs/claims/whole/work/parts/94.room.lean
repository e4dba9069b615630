/-! ===== fault and room ===== -/
theorem TX.of {hx hm : AH} (b : Bk hx hm) {r N : Nat} (hr : r < 4) (hN : N ≤ 80) (e1 : hx.1 5 r 1 = nI N) (e2 : hm.1 39 0 r = nI N) : TX hx hm r N (fun i => hm.1 40 0 (80 * r + i)) := ⟨e1, e2, fun i hi => ⟨(b.2.2 r hr).2.2 i (by omega), rfl⟩⟩
theorem e_fault : E1 Rel f_X11_fault f_X12_fault := by
  intro a hx hm h
  show OR _ _
  have b := h.1
  unfold f_X11_fault f_X12_fault
  rw [x_isText, m_isText, bd_some, bd_some, if10, if10]
  by_cases hb : inb a 4 = true
  rotate_left
  · rw [if_neg hb, if_neg hb]; exact OR.same h rfl rfl
  obtain ⟨r, hr, rfl⟩ := inb_ex hb
  simp only [if_pos hb, nI_cl (show r < 100000 by omega), x_isMissT, bd_some, if10, x_ref1, m_me1]
  rcases b.text hr with ⟨e1, e2⟩ | ⟨N, hN, e1, e2, f, g, k⟩
  · simp only [e1, e2, if_true, if_neg neg1]
    exact OR.find h (f := 1) (by omega) rfl rfl
  · simp only [e1, e2, if_neg f, if_pos g]
    obtain ⟨v, gx2, gm2, z1, z2, z3, z4, -⟩ := read_all hr hN (TX.of b hr hN e1 e2)
    rw [z1, z2, bd_some, bd_some]
    exact OR.same (h.rx z3 z4) rfl rfl
def s0 (su : Nat → Nat) : SD := (0, 0, 0, 0, su, fun _ => 0)
theorem x_room {h : AH} {P : PD} {su : Nat → Nat} {a : Nat} (v : PV P) (c : DX h P su a) : ∃ h9, bd (f_X6_become 0 1 h) (fun _ h8 => bd (f_X7_renew 3 0 h8) (fun _ h10 => bd (l_X11_room_39 FU (0 : Int32) h10) (fun v h => c_X11_room_50 h))) = some (nI P.n, h9) ∧ XPl h9 0 P ∧ XSt h9 3 P (s0 su) ∧ (∀ c, c < 3 → h9.1 8 c 6 = 0) ∧ (∀ k, ¬ (8 ≤ k ∧ k ≤ 17) → h9.1 k = h.1 k) ∧ h9.2 = h.2 := by
  obtain ⟨⟨c1, c2, c3, c4, c5⟩, c6, c7⟩ := c
  have hn := v.n10
  have hm := v.m14
  have i0 : (0 : Int32).toNatClampNeg = 0 := rfl
  have i6 : (6 : Int32).toNatClampNeg = 6 := rfl
  have i10' : (10 : Int32).toNatClampNeg = 10 := rfl
  have i14 : (14 : Int32).toNatClampNeg = 14 := rfl
  -- the plan
  have b1 : ∃ h8, f_X6_become 0 1 h = some ((), h8) ∧ XPl h8 0 P ∧ (∀ k, k < P.m → h8.1 17 0 k = nI (su k)) ∧ (∀ k, ¬ (8 ≤ k ∧ k ≤ 17) → h8.1 k = h.1 k) ∧ h8.2 = h.2 := by
    unfold f_X6_become
    simp only [i0, i6, i10', i14]
    refine ⟨_, rfl, ⟨?_, ?_, ?_, ?_, ?_⟩, ?_, ?_, ?_⟩
    · rw [hcp_k (by decide), hcp_k (by decide), hcp_k (by decide), hcp_k (by decide), hcp_k (by decide), hsI_1, if_neg (by omega), hsI_1, if_pos ⟨rfl, rfl, rfl⟩]; exact c1
    · rw [hcp_k (by decide), hcp_k (by decide), hcp_k (by decide), hcp_k (by decide), hcp_k (by decide), hsI_1, if_pos ⟨rfl, rfl, rfl⟩, hsI_1, if_neg (by omega)]; exact c2
    · intro x hx
      rw [hcp_k (by decide), hcp_k (by decide), hcp_k (by decide), hcp_k (by decide), hcp_1, if_pos (by omega), hsI_k (by decide), hsI_k (by decide), show 0 + (x - 0) = x by omega]
      exact c3 x hx
    · intro j hj x
      rw [hcp_k (by decide), hcp_k (by decide), hcp_k (by decide), hcp_1, if_pos (by omega), hcp_k (by decide), hsI_k (by decide), hsI_k (by decide), show 0 + (j - 0) = j by omega]
      exact c4 j hj x
    · intro k hk
      refine ⟨?_, ?_⟩
      · rw [hcp_k (by decide), hcp_k (by decide), hcp_1, if_pos (by omega), hcp_k (by decide), hcp_k (by decide), hsI_k (by decide), hsI_k (by decide), show 0 + (k - 0) = k by omega]
        exact (c5 k hk).1
      · rw [hcp_k (by decide), hcp_1, if_pos (by omega), hcp_k (by decide), hcp_k (by decide), hcp_k (by decide), hsI_k (by decide), hsI_k (by decide), show 0 + (k - 0) = k by omega]
        exact (c5 k hk).2
    · intro k hk
      rw [hcp_1, if_pos (by omega), hcp_k (by decide), hcp_k (by decide), hcp_k (by decide), hcp_k (by decide), hsI_k (by decide), hsI_k (by decide), show 0 + (k - 0) = k by omega]
      exact c6 k hk
    · intro k hk
      rw [hcp_k (by omega), hcp_k (by omega), hcp_k (by omega), hcp_k (by omega), hcp_k (by omega), hsI_k (by omega), hsI_k (by omega)]
    · rfl
  obtain ⟨h8, e8, x8, s8, k8, l8⟩ := b1
  rw [e8, bd_some]
  unfold f_X7_renew
  rw [bd_some, i0, i14]
  -- the evening
  have st : XSt (hcp (hsI (hsI (hsI (hsI h8 8 3 2 0) 8 3 3 0) 8 3 4 0) 8 3 5 0) 17 0 9 3 0 0 14) 3 P (s0 su) := by
    refine ⟨?_, ?_, ?_, ?_, fun k hk => ?_, fun i hi => absurd hi (Nat.not_lt_zero _)⟩
    · rw [hcp_k (by decide), hsI_1, if_neg (by omega), hsI_1, if_neg (by omega), hsI_1, if_neg (by omega), hsI_1, if_pos ⟨rfl, rfl, rfl⟩]; rfl
    · rw [hcp_k (by decide), hsI_1, if_neg (by omega), hsI_1, if_neg (by omega), hsI_1, if_pos ⟨rfl, rfl, rfl⟩]; rfl
    · rw [hcp_k (by decide), hsI_1, if_neg (by omega), hsI_1, if_pos ⟨rfl, rfl, rfl⟩]; rfl
    · rw [hcp_k (by decide), hsI_1, if_pos ⟨rfl, rfl, rfl⟩]; rfl
    · rw [hcp_1, if_pos (by omega), hsI_k (by decide), hsI_k (by decide), hsI_k (by decide), hsI_k (by decide), show 0 + (k - 0) = k by omega]
      exact s8 k hk
  have kk : ∀ k, ¬ (8 ≤ k ∧ k ≤ 9) → (hcp (hsI (hsI (hsI (hsI h8 8 3 2 0) 8 3 3 0) 8 3 4 0) 8 3 5 0) 17 0 9 3 0 0 14).1 k = h8.1 k := fun k hk => by
    rw [hcp_k (by omega), hsI_k (by omega), hsI_k (by omega), hsI_k (by omega), hsI_k (by omega)]
  have ll : (hcp (hsI (hsI (hsI (hsI h8 8 3 2 0) 8 3 3 0) 8 3 4 0) 8 3 5 0) 17 0 9 3 0 0 14).2 = h8.2 := rfl
  generalize hcp (hsI (hsI (hsI (hsI h8 8 3 2 0) 8 3 3 0) 8 3 4 0) 8 3 5 0) 17 0 9 3 0 0 14 = g at st kk ll
  have := lpi (fun F (q : Int32 × AH) => l_X11_room_39 F q.1 q.2) 3
    (fun j q => q.1 = nI j ∧ (∀ c, c < j → q.2.1 8 c 6 = 0) ∧ (∀ k i c, ¬ (k = 8 ∧ i < 3 ∧ c = 6) → q.2.1 k i c = g.1 k i c) ∧ q.2.2 = g.2)
    (fun o => ∃ h2, o = some ((), h2) ∧ (∀ c, c < 3 → h2.1 8 c 6 = 0) ∧ (∀ k i c, ¬ (k = 8 ∧ i < 3 ∧ c = 6) → h2.1 k i c = g.1 k i c) ∧ h2.2 = g.2) (by
    rintro F j ⟨i, w⟩ hj ⟨q1, q2, q3, q4⟩
    simp only at q1 q2 q3 q4
    subst q1
    right
    show ∃ t2 : Int32 × AH, _ ∧ b_X11_room_39 (l_X11_room_39 F) (nI j) w = l_X11_room_39 F t2.1 t2.2
    unfold b_X11_room_39
    rw [if_neg (show ¬ (3 : Int32) ≤ nI j from nI_ge (b := 3) hj (by omega)), if_pos (inb_nI hj (by omega)), nI_cl (by omega), nI_1]
    refine ⟨(nI (j + 1), hsI w 8 j 6 0), ⟨rfl, fun c hc => ?_, fun k i c hk => ?_, q4⟩, rfl⟩
    · show (hsI w 8 j 6 0).1 8 c 6 = 0
      rw [hsI_1]
      by_cases e : c = j
      · rw [if_pos ⟨rfl, e, rfl⟩]
      · rw [if_neg (fun z => e z.2.1)]; exact q2 c (by omega)
    · show (hsI w 8 j 6 0).1 k i c = _
      rw [hsI_1, if_neg (by omega)]; exact q3 k i c hk) (by
    rintro F ⟨i, w⟩ ⟨q1, q2, q3, q4⟩
    simp only at q1 q2 q3 q4
    subst q1
    show ∃ h2, b_X11_room_39 (l_X11_room_39 F) (nI 3) w = _ ∧ _
    unfold b_X11_room_39
    rw [if_pos (show (3 : Int32) ≤ nI 3 by decide)]
    exact ⟨w, rfl, q2, q3, q4⟩) (by omega) (0, g) ⟨rfl, fun c hc => by omega, fun _ _ _ _ => rfl, rfl⟩
  obtain ⟨h9, z1, z2, z3, z4⟩ := this
  have z1' : l_X11_room_39 FU 0 g = some ((), h9) := z1
  have k9 : ∀ k, ¬ (8 ≤ k ∧ k ≤ 9) → h9.1 k = h8.1 k := fun k hk => by
    rw [← kk k hk]
    funext i c
    exact z3 k i c (by omega)
  rw [z1', bd_some]
  unfold c_X11_room_50
  obtain ⟨y1, y2, y3, y4, y5⟩ := x8
  rw [k9 12 (by omega), y1]
  refine ⟨h9, rfl, ⟨?_, ?_, ?_, ?_, ?_⟩, ?_, z2, fun k hk => by rw [k9 k (by omega), k8 k hk], by rw [z4, ll, l8]⟩
  · rw [k9 12 (by omega)]; exact y1
  · rw [k9 12 (by omega)]; exact y2
  · rw [k9 13 (by omega)]; exact y3
  · rw [k9 14 (by omega)]; exact y4
  · rw [k9 15 (by omega), k9 16 (by omega)]; exact y5
  · obtain ⟨w1, w2, w3, w4, w5, w6⟩ := st
    refine ⟨?_, ?_, ?_, ?_, fun k hk => ?_, fun i hi => absurd hi (Nat.not_lt_zero _)⟩
    · rw [z3 8 3 2 (by omega)]; exact w1
    · rw [z3 8 3 3 (by omega)]; exact w2
    · rw [z3 8 3 4 (by omega)]; exact w3
    · rw [z3 8 3 5 (by omega)]; exact w4
    · rw [z3 9 3 k (by omega)]; exact w5 k hk
