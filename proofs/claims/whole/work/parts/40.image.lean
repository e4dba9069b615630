/-! ===== images ===== -/
theorem ix41 (j i : Nat) : (41 : Int32) * nI j + nI i = nI (41 * j + i) := by
  show nI 41 * nI j + nI i = _
  rw [nI_mul, nI_add]
theorem ix14 (j i : Nat) : (14 : Int32) * nI j + nI i = nI (14 * j + i) := by
  show nI 14 * nI j + nI i = _
  rw [nI_mul, nI_add]
theorem ix3 (j : Nat) : (3 : Int32) * nI j = nI (3 * j) := by
  show nI 3 * nI j = _
  rw [nI_mul]
theorem ix32 (j : Nat) : nI j + (2 : Int32) = nI (j + 2) := nI_add j 2
theorem x_isImage (x : Int32) (h : AH) : f_X11_isImage x h = some (if inb x 3 = true then 1 else 0, h) := by
  unfold f_X11_isImage
  rw [show (3 : Int32) = nI 3 from rfl, ifr (by omega)]
  split <;> rfl
theorem m_in2 (x : Int32) (h : AH) : f_X12_in x 0 2 h = some (if inb x 3 = true then 1 else 0, h) := m_inn (n := 3) (by omega) x h
/-- the class: one state becomes another -/
theorem x_become {a b : Nat} (hab : a ≠ b) (h : AH) : ∃ h2, f_X7_become a b h = some ((), h2) ∧ (∀ j, 2 ≤ j → j ≤ 5 → h2.1 8 a j = h.1 8 b j) ∧ h2.1 8 a 6 = h.1 8 a 6 ∧ (∀ k, k < 14 → h2.1 9 a k = h.1 9 b k) ∧ (∀ i, i < 40 → h2.1 10 a i = h.1 10 b i) ∧ (∀ k, ¬ (8 ≤ k ∧ k ≤ 10) → h2.1 k = h.1 k) ∧ (∀ k c, c ≠ a → h2.1 k c = h.1 k c) ∧ h2.2 = h.2 := by
  refine ⟨_, rfl, ?_, ?_, ?_, ?_, ?_, ?_, rfl⟩
  · intro j h1 h2
    rw [hcp_k (by decide), hcp_k (by decide)]
    have : j = 2 ∨ j = 3 ∨ j = 4 ∨ j = 5 := by omega
    rcases this with rfl | rfl | rfl | rfl <;> simp [hsI_1, hab, hab.symm]
  · rw [hcp_k (by decide), hcp_k (by decide)]
    simp [hsI_1]
  · intro k hk
    rw [hcp_k (by decide), hcp_1, if_pos (by refine ⟨rfl, rfl, Nat.zero_le _, ?_⟩; show k < 0 + 14; omega)]
    show (hsI _ _ _ _ _).1 9 b (0 + (k - 0)) = _
    rw [hsI_k (by decide), hsI_k (by decide), hsI_k (by decide), hsI_k (by decide), Nat.zero_add, Nat.sub_zero]
  · intro k hk
    rw [hcp_1, if_pos (by refine ⟨rfl, rfl, Nat.zero_le _, ?_⟩; show k < 0 + 40; omega)]
    show (hcp _ _ _ _ _ _ _ _).1 10 b (0 + (k - 0)) = _
    rw [hcp_k (by decide), hsI_k (by decide), hsI_k (by decide), hsI_k (by decide), hsI_k (by decide), Nat.zero_add, Nat.sub_zero]
  · intro k hk
    rw [hcp_k (by omega), hcp_k (by omega), hsI_k (by omega), hsI_k (by omega), hsI_k (by omega), hsI_k (by omega)]
  · intro k c hc
    funext j
    simp [hcp_1, hsI_1, hc]
theorem m_img1 {c n : Nat} (hc : c < 3) (hn : n ≤ 40) {h : AH} (e : h.1 34 0 27 = nI n) : l_X12_image_53 FU (nI c) 0 h = some ((), hfl h 52 0 (41 * c) n (fun i => h.1 49 0 i)) := by
  have := lp0 (fun F j => l_X12_image_53 F (nI c) (nI j) (hfl h 52 0 (41 * c) j (fun i => h.1 49 0 i))) n (some ((), hfl h 52 0 (41 * c) n (fun i => h.1 49 0 i))) (by
    intro F j hj
    show b_X12_image_53 (l_X12_image_53 F) (nI c) (nI j) _ = _
    unfold b_X12_image_53
    rw [hfl_k (a := 34) (by decide), e, if_neg (nI_ge hj (by omega)), if_pos (inb_nI (by omega) (by omega)), ix41, if_pos (inb_nI (by omega) (by omega)), nI_cl (show 41 * c + j < 100000 by omega), nI_cl (show j < 100000 by omega), nI_1, hfl_k (a := 49) (by decide), ← hfl_s]) (by
    intro F
    show b_X12_image_53 (l_X12_image_53 F) (nI c) (nI n) _ = _
    unfold b_X12_image_53
    rw [hfl_k (a := 34) (by decide), e, if_pos (Int32.le_refl _)]) (by omega)
  rw [hfl_0, nI_0] at this
  exact this
theorem m_img2 {c n : Nat} (hc : c < 3) (hn : n ≤ 14) {h : AH} (e : h.1 34 0 11 = nI n) : l_X12_image_73 FU (nI c) 0 h = some ((), hfl h 54 0 (14 * c) n (fun i => h.1 44 0 i)) := by
  have := lp0 (fun F j => l_X12_image_73 F (nI c) (nI j) (hfl h 54 0 (14 * c) j (fun i => h.1 44 0 i))) n (some ((), hfl h 54 0 (14 * c) n (fun i => h.1 44 0 i))) (by
    intro F j hj
    show b_X12_image_73 (l_X12_image_73 F) (nI c) (nI j) _ = _
    unfold b_X12_image_73
    rw [hfl_k (a := 34) (by decide), e, if_neg (nI_ge hj (by omega)), if_pos (inb_nI (by omega) (by omega)), ix14, if_pos (inb_nI (by omega) (by omega)), nI_cl (show 14 * c + j < 100000 by omega), nI_cl (show j < 100000 by omega), nI_1, hfl_k (a := 44) (by decide), ← hfl_s]) (by
    intro F
    show b_X12_image_73 (l_X12_image_73 F) (nI c) (nI n) _ = _
    unfold b_X12_image_73
    rw [hfl_k (a := 34) (by decide), e, if_pos (Int32.le_refl _)]) (by omega)
  rw [hfl_0, nI_0] at this
  exact this
theorem m_on1 {c n : Nat} (hc : c < 3) (hn : n ≤ 40) {h : AH} (e : h.1 34 0 27 = nI n) : l_X12_on_52 FU (nI c) 0 h = some ((), hfl h 49 0 0 n (fun i => h.1 52 0 (41 * c + i))) := by
  have := lp0 (fun F j => l_X12_on_52 F (nI c) (nI j) (hfl h 49 0 0 j (fun i => h.1 52 0 (41 * c + i)))) n (some ((), hfl h 49 0 0 n (fun i => h.1 52 0 (41 * c + i)))) (by
    intro F j hj
    show b_X12_on_52 (l_X12_on_52 F) (nI c) (nI j) _ = _
    unfold b_X12_on_52
    rw [hfl_k (a := 34) (by decide), e, if_neg (nI_ge hj (by omega)), ix41, if_pos (inb_nI (by omega) (by omega)), if_pos (inb_nI (by omega) (by omega)), nI_cl (show 41 * c + j < 100000 by omega), nI_cl (show j < 100000 by omega), nI_1, hfl_k (a := 52) (by decide), ← hfl_s0]) (by
    intro F
    show b_X12_on_52 (l_X12_on_52 F) (nI c) (nI n) _ = _
    unfold b_X12_on_52
    rw [hfl_k (a := 34) (by decide), e, if_pos (Int32.le_refl _)]) (by omega)
  rw [hfl_0, nI_0] at this
  exact this
theorem m_on2 {c n : Nat} (hc : c < 3) (hn : n ≤ 14) {h : AH} (e : h.1 34 0 11 = nI n) : l_X12_on_72 FU (nI c) 0 h = some ((), hfl h 44 0 0 n (fun i => h.1 54 0 (14 * c + i))) := by
  have := lp0 (fun F j => l_X12_on_72 F (nI c) (nI j) (hfl h 44 0 0 j (fun i => h.1 54 0 (14 * c + i)))) n (some ((), hfl h 44 0 0 n (fun i => h.1 54 0 (14 * c + i)))) (by
    intro F j hj
    show b_X12_on_72 (l_X12_on_72 F) (nI c) (nI j) _ = _
    unfold b_X12_on_72
    rw [hfl_k (a := 34) (by decide), e, if_neg (nI_ge hj (by omega)), ix14, if_pos (inb_nI (by omega) (by omega)), if_pos (inb_nI (by omega) (by omega)), nI_cl (show 14 * c + j < 100000 by omega), nI_cl (show j < 100000 by omega), nI_1, hfl_k (a := 54) (by decide), ← hfl_s0]) (by
    intro F
    show b_X12_on_72 (l_X12_on_72 F) (nI c) (nI n) _ = _
    unfold b_X12_on_72
    rw [hfl_k (a := 34) (by decide), e, if_pos (Int32.le_refl _)]) (by omega)
  rw [hfl_0, nI_0] at this
  exact this
/-- the reference keeps an image -/
theorem m_image {h : AH} {p : PD} {s : SD} (d : MC h p s) {c : Nat} (hc : c < 3) (h0 : ¬ p.n = 0) : ∃ h2, f_X12_image (nI c) h = some (nI (s.ts - 1), h2) ∧ h2.1 50 0 c = 1 ∧ MIm h2 c p s ∧ (∀ k, ¬ (50 ≤ k ∧ k ≤ 54) → h2.1 k = h.1 k) ∧ (∀ q, q ≠ c → h2.1 50 0 q = h.1 50 0 q) ∧ (∀ q s', q < 3 → q ≠ c → s'.ts ≤ 40 → p.m ≤ 14 → MIm h q p s' → MIm h2 q p s') ∧ h2.2 = h.2 := by
  have h40 := d.2.1.t40
  have hm := d.1.m14
  have hn := d.1.n10
  have hb : inb (nI c) 3 = true := inb_nI hc (by omega)
  unfold f_X12_image
  simp only [m_in2, bd_some, if10, if_pos hb, d.n, nI_eq0 (show p.n < 100000 by omega), if_neg h0, ix3, nI_1, ix32, if_pos (inb_nI (show 3 * c < 9 by omega) (by omega)), if_pos (inb_nI (show 3 * c + 1 < 9 by omega) (by omega)), if_pos (inb_nI (show 3 * c + 2 < 9 by omega) (by omega)), nI_cl (show c < 100000 by omega), nI_cl (show 3 * c < 100000 by omega), nI_cl (show 3 * c + 1 < 100000 by omega), nI_cl (show 3 * c + 2 < 100000 by omega), hsI_k (show (34 : Nat) ≠ 50 by decide), hsI_k (show (34 : Nat) ≠ 51 by decide), hsI_k (show (34 : Nat) ≠ 53 by decide), d.ts, d.aw, d.kn, d.lw, zn1]
  rw [m_img1 hc h40 (by simp only [hsI_k (show (34 : Nat) ≠ 50 by decide), hsI_k (show (34 : Nat) ≠ 51 by decide), hsI_k (show (34 : Nat) ≠ 53 by decide)]; exact d.ts), bd_some]
  unfold c_X12_image_71
  rw [m_img2 hc hm (by simp only [hfl_k (show (34 : Nat) ≠ 52 by decide), hsI_k (show (34 : Nat) ≠ 50 by decide), hsI_k (show (34 : Nat) ≠ 51 by decide), hsI_k (show (34 : Nat) ≠ 53 by decide)]; exact d.m), bd_some]
  unfold c_X12_image_91
  simp only [hsI_k (show (49 : Nat) ≠ 50 by decide), hsI_k (show (49 : Nat) ≠ 51 by decide), hsI_k (show (49 : Nat) ≠ 53 by decide), hfl_k (show (44 : Nat) ≠ 52 by decide), hsI_k (show (44 : Nat) ≠ 50 by decide), hsI_k (show (44 : Nat) ≠ 51 by decide), hsI_k (show (44 : Nat) ≠ 53 by decide)]
  have hK : ∀ k, ¬ (50 ≤ k ∧ k ≤ 54) → (hfl (hfl (hsI (hsI (hsI (hsI (hsI h 50 0 c 1) 51 0 c (nI s.ts)) 53 0 (3 * c) s.aw) 53 0 (3 * c + 1) s.kn) 53 0 (3 * c + 2) (nI s.lw)) 52 0 (41 * c) s.ts (fun i => h.1 49 0 i)) 54 0 (14 * c) p.m (fun i => h.1 44 0 i)).1 k = h.1 k := by
    intro k hk
    rw [hfl_k (by omega), hfl_k (by omega), hsI_k (by omega), hsI_k (by omega), hsI_k (by omega), hsI_k (by omega), hsI_k (by omega)]
  have hC : MC (hfl (hfl (hsI (hsI (hsI (hsI (hsI h 50 0 c 1) 51 0 c (nI s.ts)) 53 0 (3 * c) s.aw) 53 0 (3 * c + 1) s.kn) 53 0 (3 * c + 2) (nI s.lw)) 52 0 (41 * c) s.ts (fun i => h.1 49 0 i)) 54 0 (14 * c) p.m (fun i => h.1 44 0 i)) p s := by
    refine ⟨d.1, d.2.1, ?_, ?_⟩
    · have := d.2.2.1
      unfold MPl at *
      rw [hK 34 (by omega), hK 41 (by omega), hK 42 (by omega), hK 43 (by omega)]
      exact this
    · have := d.2.2.2
      unfold MSt at *
      rw [hK 34 (by omega), hK 44 (by omega), hK 49 (by omega)]
      exact this
  rw [m_answerMany hC, bd_some]
  refine ⟨_, rfl, ?_, ⟨?_, ?_, ?_, ?_, ?_, ?_⟩, hK, ?_, ?_, rfl⟩
  · simp [hfl_1, hsI_1]
  · simp [hfl_1, hsI_1]
  · simp [hfl_1, hsI_1]
  · simp [hfl_1, hsI_1]
  · simp [hfl_1, hsI_1]
  · intro k hk
    rw [hfl_1, if_pos (by omega), show 14 * c + k - 14 * c = k by omega]
    exact d.su hk
  · intro i hi
    rw [hfl_k (by decide), hfl_1, if_pos (by omega), show 41 * c + i - 41 * c = i by omega]
    exact d.tr hi
  · intro q hq
    simp [hfl_1, hsI_1, hq]
  · intro q s' hq hqc h4 hmm ⟨i1, i2, i3, i4, i5, i6⟩
    refine ⟨?_, ?_, ?_, ?_, fun k hk => ?_, fun i hi => ?_⟩
    · rw [← i1]; simp [hfl_1, hsI_1, hqc]
    · rw [← i2, hfl_k (by decide), hfl_k (by decide), hsI_1, if_neg (by omega), hsI_1, if_neg (by omega), hsI_1, if_neg (by omega), hsI_k (by decide), hsI_k (by decide)]
    · rw [← i3, hfl_k (by decide), hfl_k (by decide), hsI_1, if_neg (by omega), hsI_1, if_neg (by omega), hsI_1, if_neg (by omega), hsI_k (by decide), hsI_k (by decide)]
    · rw [← i4, hfl_k (by decide), hfl_k (by decide), hsI_1, if_neg (by omega), hsI_1, if_neg (by omega), hsI_1, if_neg (by omega), hsI_k (by decide), hsI_k (by decide)]
    · rw [← i5 k hk, hfl_1, if_neg (by omega), hfl_k (by decide), hsI_k (by decide), hsI_k (by decide), hsI_k (by decide), hsI_k (by decide), hsI_k (by decide)]
    · rw [← i6 i hi, hfl_k (by decide), hfl_1, if_neg (by omega), hsI_k (by decide), hsI_k (by decide), hsI_k (by decide), hsI_k (by decide), hsI_k (by decide)]
theorem e_image : E1 Rel f_X11_image f_X12_image := by
  intro a hx hm h
  show OR _ _
  obtain ⟨b, p, s, d⟩ := h
  have h : Rel hx hm := ⟨b, p, s, d⟩
  have h40 := d.2.1.t40
  have hn := d.1.n10
  by_cases hb : inb a 3 = true
  rotate_left
  · refine OR.same h (r := -1) ?_ ?_
    · unfold f_X11_image
      rw [x_isImage, bd_some, if10, if_neg hb]
    · unfold f_X12_image
      rw [m_in2, bd_some, if10, if_neg hb]
  obtain ⟨c, hc, rfl⟩ := inb_ex hb
  by_cases h0 : p.n = 0
  · refine OR.same h (r := -4) ?_ ?_
    · unfold f_X11_image
      rw [x_isImage, bd_some, if10, if_pos hb, d.x.n, if_pos (by rw [h0]; rfl)]
    · unfold f_X12_image
      rw [m_in2, bd_some, if10, if_pos hb, d.m.n, if_pos (by rw [h0]; rfl)]
  obtain ⟨hm2, m1, m2, m3, m4, m5, m6, m7⟩ := m_image d.m hc h0
  obtain ⟨hx2, x1, x2, x3, x4, x5, x6, x7, x8⟩ := x_become (show c ≠ 3 by omega) hx
  have fX : f_X11_image (nI c) hx = bd (f_X7_answers 3 (hsI hx2 8 c 6 1)) (fun y h => some (y, h)) := by
    unfold f_X11_image
    simp only [x_isImage, bd_some, if10, if_pos hb, if_neg i10, d.x.n, nI_eq0 (show p.n < 100000 by omega), if_neg h0, nI_cl (show c < 100000 by omega), x1]
  have K : ∀ k q, q ≠ c → (hsI hx2 8 c 6 1).1 k q = hx.1 k q := by
    intro k q hq
    rw [← x7 k q hq]
    funext j
    rw [hsI_1, if_neg (fun z => hq z.2.1)]
  have K2 : ∀ k, ¬ (8 ≤ k ∧ k ≤ 10) → (hsI hx2 8 c 6 1).1 k = hx.1 k := by
    intro k hk
    rw [hsI_k (by omega), x6 k hk]
  have hS : XSt (hsI hx2 8 c 6 1) 3 p s := by
    have := d.2.2.2.2.1
    unfold XSt at *
    rw [K 8 3 (by omega), K 9 3 (by omega), K 10 3 (by omega)]
    exact this
  have hP : XPl (hsI hx2 8 c 6 1) 0 p := by
    have := d.2.2.1
    unfold XPl at *
    rw [K2 12 (by omega), K2 13 (by omega), K2 14 (by omega), K2 15 (by omega), K2 16 (by omega)]
    exact this
  have hC : XC (hsI hx2 8 c 6 1) p s := ⟨d.1, d.2.1, hP, hS⟩
  have hPM : MPl hm2 p := by
    have := d.2.2.2.1
    unfold MPl at *
    rw [m4 34 (by omega), m4 41 (by omega), m4 42 (by omega), m4 43 (by omega)]
    exact this
  have hSM : MSt hm2 p s := by
    have := d.2.2.2.2.2.1
    unfold MSt at *
    rw [m4 34 (by omega), m4 44 (by omega), m4 49 (by omega)]
    exact this
  rw [x_answers hC, bd_some] at fX
  refine ⟨_, _, _, fX, m1, ⟨b.1.fr ?_ ?_ ?_ ?_ ?_ ?_, b.2.1.fr ?_ ?_ ?_ ?_, b.2.2.fr ?_ ?_ ?_ ?_⟩, p, s, d.1, d.2.1, hP, hPM, hS, hSM, fun q hq => ?_⟩
  · exact K2 _ (by omega)
  · exact K2 _ (by omega)
  · exact x8
  · intro j hj; rw [m4 34 (by omega)]
  · exact m4 _ (by omega)
  · exact m7
  · exact K2 _ (by omega)
  · exact K2 _ (by omega)
  · exact m4 _ (by omega)
  · exact m4 _ (by omega)
  · exact K2 _ (by omega)
  · exact K2 _ (by omega)
  · exact m4 _ (by omega)
  · exact m4 _ (by omega)
  · by_cases e : q = c
    · subst e
      right
      refine ⟨by rw [hsI_1, if_pos ⟨rfl, rfl, rfl⟩], m2, s, d.2.1, ⟨?_, ?_, ?_, ?_, fun k hk => ?_, fun i hi => ?_⟩, m3⟩
      · rw [hsI_1, if_neg (by omega), x2 2 (by omega) (by omega)]; exact d.x.ts
      · rw [hsI_1, if_neg (by omega), x2 3 (by omega) (by omega)]; exact d.x.aw
      · rw [hsI_1, if_neg (by omega), x2 4 (by omega) (by omega)]; exact d.x.kn
      · rw [hsI_1, if_neg (by omega), x2 5 (by omega) (by omega)]; exact d.x.lw
      · rw [hsI_k (by decide), x4 k (by have := d.1.m14; omega)]; exact d.x.su hk
      · rw [hsI_k (by decide), x5 i (by omega)]; exact d.x.tr hi
    · have := d.2.2.2.2.2.2 q hq
      unfold ImR at *
      rw [K 8 q e, m5 q e]
      rcases this with z | ⟨z1, z2, s', z3, z4, z5⟩
      · exact Or.inl z
      · refine Or.inr ⟨z1, z2, s', z3, ?_, m6 q s' hq e z3.t40 d.1.m14 z5⟩
        unfold XSt at *
        rw [K 8 q e, K 9 q e, K 10 q e]
        exact z4
theorem FM3.fl {a b : AH} (h : FM3 a b) {k lo n : Nat} {f : Nat → Int32} (hk : k = 44 ∨ k = 49) : FM3 a (hfl b k 0 lo n f) := by
  refine ⟨fun q h1 h2 h3 => ?_, h.2.1, fun c h1 h2 h3 h4 => ?_⟩
  · rw [hfl_k (by omega)]; exact h.1 q h1 h2 h3
  · rw [hfl_1, if_neg (by omega)]; exact h.2.2 c h1 h2 h3 h4
theorem e_on : E1 Rel f_X11_on f_X12_on := by
  intro a hx hm h
  show OR _ _
  obtain ⟨b, p, s, d⟩ := h
  have h : Rel hx hm := ⟨b, p, s, d⟩
  have hmm := d.1.m14
  by_cases hb : inb a 3 = true
  rotate_left
  · refine OR.same h (r := -1) ?_ ?_
    · unfold f_X11_on
      rw [x_isImage, bd_some, if10, if_neg hb]
    · unfold f_X12_on
      rw [m_in2, bd_some, if10, if_neg hb]
  obtain ⟨c, hc, rfl⟩ := inb_ex hb
  rcases d.2.2.2.2.2.2 c hc with ⟨z1, z2⟩ | ⟨z1, z2, s', z3, z4, z5⟩
  · refine OR.find h (f := 1) (by omega) ?_ ?_
    · unfold f_X11_on
      rw [x_isImage, bd_some, if10, if_pos hb, if_pos hb, nI_cl (by omega), z1, if_pos rfl, x_ref1, bd_some]
    · unfold f_X12_on
      rw [m_in2, bd_some, if10, if_pos hb, if_pos hb, nI_cl (by omega), z2, if_pos rfl, m_me1, bd_some]
  have h40 := z3.t40
  obtain ⟨i1, i2, i3, i4, i5, i6⟩ := z5
  obtain ⟨j1, j2, j3, j4, j5, j6⟩ := z4
  obtain ⟨hx2, x1, x2, x3, x4, x5, x6, x7, x8⟩ := x_become (show 3 ≠ c by omega) hx
  have fX : f_X11_on (nI c) hx = bd (f_X7_answers 3 hx2) (fun y h => some (y, h)) := by
    unfold f_X11_on
    rw [x_isImage, bd_some, if10, if_pos hb, if_pos hb, nI_cl (by omega), z1, if_neg i10, if_pos hb, x1, bd_some]
  have fM : ∃ hm2, f_X12_on (nI c) hm = bd (f_X12_answerMany hm2) (fun y h => some (y, h)) ∧ FM3 hm hm2 ∧ MSt hm2 p s' := by
    unfold f_X12_on
    simp only [m_in2, bd_some, if10, if_pos hb, if_neg i10, nI_cl (show c < 100000 by omega), z2, ix3, nI_1, ix32, if_pos (inb_nI (show 3 * c < 9 by omega) (by omega)), if_pos (inb_nI (show 3 * c + 1 < 9 by omega) (by omega)), if_pos (inb_nI (show 3 * c + 2 < 9 by omega) (by omega)), nI_cl (show 3 * c < 100000 by omega), nI_cl (show 3 * c + 1 < 100000 by omega), nI_cl (show 3 * c + 2 < 100000 by omega), hsI_k (show (53 : Nat) ≠ 34 by decide), i1, i2, i3, i4]
    rw [m_on1 hc h40 (by simp [hsI_1]), bd_some]
    unfold c_X12_on_70
    rw [m_on2 hc hmm (by rw [hfl_k (by decide)]; simp only [hsI_1]; simp; exact d.m.m), bd_some]
    unfold c_X12_on_90
    refine ⟨_, rfl, (((((FM3.rfl.sI (by omega)).sI (by omega)).sI (by omega)).sI (by omega)).fl (by omega)).fl (by omega), ⟨?_, ?_, ?_, ?_, fun k hk => ?_, fun i hi => ?_⟩⟩
    · simp [hfl_1, hsI_1]
    · simp [hfl_1, hsI_1]
    · simp [hfl_1, hsI_1]
    · simp [hfl_1, hsI_1]
    · rw [hfl_1, if_pos (by omega), Nat.sub_zero]
      simp only [hfl_k (show (54 : Nat) ≠ 49 by decide), hsI_k (show (54 : Nat) ≠ 34 by decide)]
      exact i5 k hk
    · rw [hfl_k (by decide), hfl_1, if_pos (by omega), Nat.sub_zero]
      simp only [hsI_k (show (52 : Nat) ≠ 34 by decide)]
      exact i6 i hi
  obtain ⟨hm2, fM, gM, sM⟩ := fM
  have gX : FX3 hx hx2 := ⟨x6, x8, x7⟩
  have D : RD hx2 hm2 p s' := d.st gX gM z3 ⟨by rw [x2 2 (by omega) (by omega)]; exact j1, by rw [x2 3 (by omega) (by omega)]; exact j2, by rw [x2 4 (by omega) (by omega)]; exact j3, by rw [x2 5 (by omega) (by omega)]; exact j4, fun k hk => by rw [x4 k (by omega)]; exact j5 k hk, fun i hi => by rw [x5 i (by omega)]; exact j6 i hi⟩ sM
  rw [x_answers D.x, bd_some] at fX
  rw [m_answerMany D.m, bd_some] at fM
  exact ⟨_, _, _, fX, fM, b.st gX gM, p, s', D⟩
