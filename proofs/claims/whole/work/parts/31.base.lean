/-! ===== LEVEL B: plain facts about the functions' words ===== -/
theorem zn0 : zn 0 = 0 := by decide
theorem zn1 : zn 1 = 1 := by decide
theorem znc (c : Prop) [Decidable c] : zn (if c then 1 else 0) = if c then 1 else 0 := by split <;> decide
theorem bd_some {α β : Type} (a : α) (h : AH) (K : α → AH → Option β) : bd (some (a, h)) K = K a h := rfl
theorem bd_none {α β : Type} (K : α → AH → Option β) : bd none K = none := rfl
theorem ite10 (c : Prop) [Decidable c] : ((if c then (1 : Int32) else 0) = 0) ↔ ¬ c := by
  split
  · rename_i h; exact ⟨fun e => absurd e (by decide), fun e => absurd h e⟩
  · rename_i h; exact ⟨fun _ => h, fun _ => rfl⟩
theorem i_lt (a b : Int32) : a < b ↔ a.toInt < b.toInt := Int32.lt_iff_toInt_lt
theorem i_le (a b : Int32) : a ≤ b ↔ a.toInt ≤ b.toInt := Int32.le_iff_toInt_le
theorem i_rng (x : Int32) : -2147483648 ≤ x.toInt ∧ x.toInt < 2147483648 := ⟨Int32.le_toInt x, Int32.toInt_lt x⟩
theorem inb_iff {x : Int32} {n : Nat} : inb x n = true ↔ 0 ≤ x.toInt ∧ x.toInt < n := by
  unfold inb
  have h9 : x.toNatClampNeg = x.toInt.toNat := rfl
  have h0 : (0 : Int32).toInt = 0 := rfl
  simp only [Bool.and_eq_true, Bool.not_eq_true', decide_eq_false_iff_not, decide_eq_true_eq, i_lt, h9, h0]
  omega
theorem inb_ex {x : Int32} {n : Nat} (h : inb x n = true) : ∃ j : Nat, j < n ∧ x = nI j := by
  obtain ⟨h0, h1⟩ := inb_iff.mp h
  have hr := i_rng x
  refine ⟨x.toInt.toNat, by omega, ?_⟩
  apply Int32.toInt_inj.mp
  rw [nI_toInt (by omega)]
  omega
theorem inb_nI {j n : Nat} (h : j < n) (hn : n ≤ 100000) : inb (nI j) n = true := inb_iff.mpr (by rw [nI_toInt (by omega)]; omega)
theorem nI_cl {j : Nat} (h : j < 100000) : (nI j).toNatClampNeg = j := nI_clamp (by omega)
theorem litI (n : Nat) : (OfNat.ofNat n : Int32) = nI n := rfl
/-- a loop of N steps: L F j is the loop with fuel F at its step j -/
theorem lpx {β : Type} (L : Nat → Nat → β) (N : Nat) (v : β) (hs : ∀ F j, j < N → L (F + 1) j = L F (j + 1)) (hx : ∀ F, L (F + 1) N = v) : ∀ F j, j ≤ N → N - j < F → L F j = v := by
  intro F
  induction F with
  | zero => intro j _ h; omega
  | succ F ih =>
    intro j hj hF
    by_cases hN : j = N
    · subst hN; exact hx F
    · rw [hs F j (by omega)]
      exact ih (j + 1) (by omega) (by omega)
theorem lp0 {β : Type} (L : Nat → Nat → β) (N : Nat) (v : β) (hs : ∀ F j, j < N → L (F + 1) j = L F (j + 1)) (hx : ∀ F, L (F + 1) N = v) (hN : N < 5000) : L FU 0 = v := lpx L N v hs hx FU 0 (Nat.zero_le _) (by show N - 0 < 5000; omega)
/-! heaps -/
def hfl (h : AH) (k i lo n : Nat) (f : Nat → Int32) : AH := (fun a b c => if a = k ∧ b = i ∧ lo ≤ c ∧ c < lo + n then f (c - lo) else h.1 a b c, h.2)
theorem hfl_0 (h : AH) (k i lo : Nat) (f : Nat → Int32) : hfl h k i lo 0 f = h := by
  unfold hfl
  have : (fun a b c => if a = k ∧ b = i ∧ lo ≤ c ∧ c < lo + 0 then f (c - lo) else h.1 a b c) = h.1 := by
    funext a b c
    rw [if_neg]
    rintro ⟨-, -, h1, h2⟩
    omega
  rw [this]
theorem hfl_s (h : AH) (k i lo n : Nat) (f : Nat → Int32) : hsI (hfl h k i lo n f) k i (lo + n) (f n) = hfl h k i lo (n + 1) f := by
  unfold hsI hfl
  congr 1
  funext a b c
  by_cases h1 : a = k ∧ b = i ∧ c = lo + n
  · rw [if_pos h1, if_pos ⟨h1.1, h1.2.1, by omega, by omega⟩, h1.2.2, Nat.add_sub_cancel_left]
  · rw [if_neg h1]
    show (if a = k ∧ b = i ∧ lo ≤ c ∧ c < lo + n then f (c - lo) else h.1 a b c) = _
    by_cases h2 : a = k ∧ b = i ∧ lo ≤ c ∧ c < lo + n
    · rw [if_pos h2, if_pos ⟨h2.1, h2.2.1, h2.2.2.1, by omega⟩]
    · rw [if_neg h2, if_neg]
      rintro ⟨e1, e2, e3, e4⟩
      by_cases h3 : c = lo + n
      · exact h1 ⟨e1, e2, h3⟩
      · exact h2 ⟨e1, e2, e3, by omega⟩
theorem hsI_1 (h : AH) (k i j : Nat) (v : Int32) (a b c : Nat) : (hsI h k i j v).1 a b c = if a = k ∧ b = i ∧ c = j then v else h.1 a b c := rfl
theorem hsI_2 (h : AH) (k i j : Nat) (v : Int32) : (hsI h k i j v).2 = h.2 := rfl
theorem hsL_1 (h : AH) (k i j : Nat) (v : Int64) : (hsL h k i j v).1 = h.1 := rfl
theorem hsL_2 (h : AH) (k i j : Nat) (v : Int64) (a b c : Nat) : (hsL h k i j v).2 a b c = if a = k ∧ b = i ∧ c = j then v else h.2 a b c := rfl
theorem hfl_1 (h : AH) (k i lo n : Nat) (f : Nat → Int32) (a b c : Nat) : (hfl h k i lo n f).1 a b c = if a = k ∧ b = i ∧ lo ≤ c ∧ c < lo + n then f (c - lo) else h.1 a b c := rfl
theorem hfl_2 (h : AH) (k i lo n : Nat) (f : Nat → Int32) : (hfl h k i lo n f).2 = h.2 := rfl
theorem hsI_k {h : AH} {k i j a : Nat} {v : Int32} (hn : a ≠ k) : (hsI h k i j v).1 a = h.1 a := by
  funext b c
  rw [hsI_1, if_neg (fun z => hn z.1)]
theorem hfl_k {h : AH} {k i lo n a : Nat} {f : Nat → Int32} (hn : a ≠ k) : (hfl h k i lo n f).1 a = h.1 a := by
  funext b c
  rw [hfl_1, if_neg (fun z => hn z.1)]
theorem hcp_k {h : AH} {k0 i0 k1 i1 sp dp n a : Nat} (hn : a ≠ k1) : (hcp h k0 i0 k1 i1 sp dp n).1 a = h.1 a := by
  funext b c
  show (if a = k1 ∧ b = i1 ∧ dp ≤ c ∧ c < dp + n then h.1 k0 i0 (sp + (c - dp)) else h.1 a b c) = _
  rw [if_neg (fun z => hn z.1)]
theorem hcp_1 (h : AH) (k0 i0 k1 i1 sp dp n a b c : Nat) : (hcp h k0 i0 k1 i1 sp dp n).1 a b c = if a = k1 ∧ b = i1 ∧ dp ≤ c ∧ c < dp + n then h.1 k0 i0 (sp + (c - dp)) else h.1 a b c := rfl
theorem hcp_2 (h : AH) (k0 i0 k1 i1 sp dp n : Nat) : (hcp h k0 i0 k1 i1 sp dp n).2 = h.2 := rfl
/-! the relation: misc, rows, texts -/
def RB (hx hm : AH) : Prop := hx.1 0 0 13 = hm.1 34 0 0 ∧ hx.1 0 0 14 = hm.1 34 0 2 ∧ hx.2 0 0 15 = hm.2 34 0 3 ∧ hx.2 0 0 16 = hm.2 34 0 4 ∧ ∀ j, j < 6 → hx.1 33 0 j = hm.1 35 0 j
def Sz (N : Nat) (z : Int32) : Prop := z = -1 ∨ ∃ n : Nat, n ≤ N ∧ z = nI n
def RR (hx hm : AH) : Prop := ∀ r, r < 6 → hx.1 2 r 1 = hm.1 36 0 r ∧ Sz 40 (hm.1 36 0 r) ∧ ∀ j, j < 40 → hx.1 3 r j = hm.1 37 0 (40 * r + j)
def RT (hx hm : AH) : Prop := ∀ t, t < 4 → hx.1 5 t 1 = hm.1 39 0 t ∧ Sz 80 (hm.1 39 0 t) ∧ ∀ j, j < 80 → hx.1 6 t j = hm.1 40 0 (80 * t + j)
theorem RR.fr {hx hm hx2 hm2 : AH} (h : RR hx hm) (a : hx2.1 2 = hx.1 2) (b : hx2.1 3 = hx.1 3) (c : hm2.1 36 = hm.1 36) (d : hm2.1 37 = hm.1 37) : RR hx2 hm2 := by
  intro r hr
  rw [a, b, c, d]
  exact h r hr
theorem RT.fr {hx hm hx2 hm2 : AH} (h : RT hx hm) (a : hx2.1 5 = hx.1 5) (b : hx2.1 6 = hx.1 6) (c : hm2.1 39 = hm.1 39) (d : hm2.1 40 = hm.1 40) : RT hx2 hm2 := by
  intro r hr
  rw [a, b, c, d]
  exact h r hr
/-! small methods -/
theorem x_isRow (x : Int32) (h : AH) : f_X11_isRow x h = some (if inb x 6 = true then 1 else 0, h) := by
  unfold f_X11_isRow
  have h0 : (0 : Int32).toInt = 0 := rfl
  have h6 : (6 : Int32).toInt = 6 := rfl
  simp only [zn0, zn1, i_lt, i_le, h0, h6]
  by_cases hb : inb x 6 = true
  · obtain ⟨a, b⟩ := inb_iff.mp hb
    rw [if_pos hb, if_neg (by omega), if_neg (by omega)]
  · rw [if_neg hb]
    have : ¬ (0 ≤ x.toInt ∧ x.toInt < (6 : Nat)) := fun z => hb (inb_iff.mpr z)
    split
    · rfl
    · rw [if_pos (by omega)]
theorem m_in (x lo hi : Int32) (h : AH) : f_X12_in x lo hi h = some (if lo.toInt ≤ x.toInt ∧ x.toInt ≤ hi.toInt then 1 else 0, h) := by
  unfold f_X12_in
  simp only [zn0, zn1, i_lt]
  by_cases h1 : x.toInt < lo.toInt
  · rw [if_pos h1, if_neg (by omega)]
  · rw [if_neg h1]
    by_cases h2 : hi.toInt < x.toInt
    · rw [if_pos h2, if_neg (by omega)]
    · rw [if_neg h2, if_pos (by omega)]
theorem m_isRow (x : Int32) (h : AH) : f_X12_isRow x h = some (if inb x 6 = true then 1 else 0, h) := by
  unfold f_X12_isRow
  rw [m_in, bd_some, znc]
  congr 2
  have h0 : (0 : Int32).toInt = 0 := rfl
  have h5 : (5 : Int32).toInt = 5 := rfl
  rw [h0, h5]
  by_cases hb : inb x 6 = true
  · have := inb_iff.mp hb
    rw [if_pos hb, if_pos (by omega)]
  · have : ¬ (0 ≤ x.toInt ∧ x.toInt < (6 : Nat)) := fun z => hb (inb_iff.mpr z)
    rw [if_neg hb, if_neg (by omega)]
/-- a finding is noted -/
def hxF (h : AH) (f : Nat) : AH := hsI (hsI h 0 0 13 (nI f)) 33 0 f (h.1 33 0 f + 1)
def hmF (h : AH) (f : Nat) : AH := hsI (hsI h 34 0 0 (nI f)) 35 0 f (h.1 35 0 f + 1)
theorem x_refuse {f : Nat} (h1 : 1 ≤ f) (h5 : f ≤ 5) (h : AH) : f_X11_refuse (nI f) h = some (-3, hxF h f) := by
  unfold f_X11_refuse
  have e1 : ¬ nI f < (1 : Int32) := by rw [i_lt, nI_toInt (by omega)]; show ¬ ((f : Int) < 1); omega
  have e2 : ¬ (5 : Int32) < nI f := by rw [i_lt, nI_toInt (by omega)]; show ¬ ((5 : Int) < f); omega
  rw [if_neg e1, if_neg e2, if_pos (inb_nI (by omega) (by omega)), if_pos (inb_nI (by omega) (by omega)), nI_cl (by omega)]
  rfl
theorem m_meets {f : Nat} (h1 : 1 ≤ f) (h5 : f ≤ 5) (h : AH) : f_X12_meets (nI f) h = some (-3, hmF h f) := by
  unfold f_X12_meets
  rw [if_pos (inb_nI (by omega) (by omega)), if_pos (inb_nI (by omega) (by omega)), nI_cl (by omega)]
  rfl
theorem RB.find {hx hm : AH} (h : RB hx hm) {f : Nat} (hf : f < 6) : RB (hxF hx f) (hmF hm f) := by
  obtain ⟨a, b, c, d, e⟩ := h
  refine ⟨?_, ?_, c, d, fun j hj => ?_⟩
  · simp [hxF, hmF, hsI_1]
  · simp [hxF, hmF, hsI_1, b]
  · by_cases hjf : j = f
    · subst hjf
      simp [hxF, hmF, hsI_1, e j hj]
    · simp [hxF, hmF, hsI_1, hjf, e j hj]
theorem hxF_k {h : AH} {f a : Nat} (h0 : a ≠ 0) (h1 : a ≠ 33) : (hxF h f).1 a = h.1 a := by unfold hxF; rw [hsI_k h1, hsI_k h0]
theorem hmF_k {h : AH} {f a : Nat} (h0 : a ≠ 34) (h1 : a ≠ 35) : (hmF h f).1 a = h.1 a := by unfold hmF; rw [hsI_k h1, hsI_k h0]
