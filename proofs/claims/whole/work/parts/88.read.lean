/-! ===== the reader ===== -/
def RX (h h2 : AH) : Prop := (∀ k, ¬ (11 ≤ k ∧ k ≤ 17) → h2.1 k = h.1 k) ∧ (∀ k, 12 ≤ k → k ≤ 17 → h2.1 k 0 = h.1 k 0) ∧ h2.2 = h.2
theorem RX.rfl {h : AH} : RX h h := ⟨fun _ _ => Eq.refl _, fun _ _ _ => Eq.refl _, Eq.refl _⟩
theorem RX.tr {a b c : AH} (h : RX a b) (g : RX b c) : RX a c := ⟨fun k hk => (g.1 k hk).trans (h.1 k hk), fun k h1 h2 => (g.2.1 k h1 h2).trans (h.2.1 k h1 h2), g.2.2.trans h.2.2⟩
theorem RX.sI {a b : AH} (h : RX a b) {k i j : Nat} {v : Int32} (hk : k = 11 ∨ (12 ≤ k ∧ k ≤ 17 ∧ i = 1)) : RX a (hsI b k i j v) := by
  refine ⟨fun q hq => ?_, fun q h1 h2 => ?_, h.2.2⟩
  · rw [hsI_k (by omega)]; exact h.1 q hq
  · rw [← h.2.1 q h1 h2]
    funext c
    rw [hsI_1, if_neg (by omega)]
theorem RX.fl {a b : AH} (h : RX a b) {k lo n : Nat} {f : Nat → Int32} (hk : 12 ≤ k ∧ k ≤ 17) : RX a (hfl b k 1 lo n f) := by
  refine ⟨fun q hq => ?_, fun q h1 h2 => ?_, h.2.2⟩
  · rw [hfl_k (by omega)]; exact h.1 q hq
  · rw [← h.2.1 q h1 h2]
    funext c
    rw [hfl_1, if_neg (by omega)]
theorem RX.k {h h2 : AH} (a : RX h h2) : KX h h2 := ⟨fun k _ _ => a.1 k (by omega), a.2.1⟩
theorem Bk.rx {hx hm hx2 hm2 : AH} (b : Bk hx hm) (f : RX hx hx2) (g : SM hm hm2) : Bk hx2 hm2 := by
  obtain ⟨⟨a1, a2, a3, a4, a5⟩, a6, a7⟩ := b
  refine ⟨⟨?_, ?_, ?_, ?_, ?_⟩, a6.fr (f.1 2 (by omega)) (f.1 3 (by omega)) (g.1 36 (by omega)) (g.1 37 (by omega)), a7.fr (f.1 5 (by omega)) (f.1 6 (by omega)) (g.1 39 (by omega)) (g.1 40 (by omega))⟩
  · rw [f.1 0 (by omega), g.2.1 0 (by omega)]; exact a1
  · rw [f.1 0 (by omega), g.2.1 2 (by omega)]; exact a2
  · rw [f.2.2, g.2.2]; exact a3
  · rw [f.2.2, g.2.2]; exact a4
  · rw [f.1 33 (by omega), g.1 35 (by omega)]; exact a5
theorem Rel.rx {hx hm hx2 hm2 : AH} (h : Rel hx hm) (f : RX hx hx2) (g : SM hm hm2) : Rel hx2 hm2 := by
  obtain ⟨b, p, s, d⟩ := h
  exact ⟨b.rx f g, p, s, d.fr f.k g.k⟩
theorem hsI_hsI (h : AH) (k i j : Nat) (a b : Int32) : hsI (hsI h k i j a) k i j b = hsI h k i j b := by
  unfold hsI
  congr 1
  funext x y z
  by_cases e : x = k ∧ y = i ∧ z = j
  · rw [if_pos e, if_pos e]
  · rw [if_neg e, if_neg e]
    show (if x = k ∧ y = i ∧ z = j then a else h.1 x y z) = _
    rw [if_neg e]
/-- the text of both -/
def TX (hx hm : AH) (r N : Nat) (tx : Nat → Int32) : Prop := hx.1 5 r 1 = nI N ∧ hm.1 39 0 r = nI N ∧ ∀ i, i < N → hx.1 6 r i = tx i ∧ hm.1 40 0 (80 * r + i) = tx i
theorem TX.fr {hx hm hx2 hm2 : AH} {r N : Nat} {tx : Nat → Int32} (t : TX hx hm r N tx) (f : RX hx hx2) (g : SM hm hm2) : TX hx2 hm2 r N tx := by
  unfold TX at *
  rw [f.1 5 (by omega), f.1 6 (by omega), g.1 39 (by omega), g.1 40 (by omega)]
  exact t
def dig (t : Int32) : Option Nat := if 48 ≤ t.toInt ∧ t.toInt ≤ 57 then some (t.toInt - 48).toNat else none
def dgt (N : Nat) (tx : Nat → Int32) (b : Nat) : Option Nat := if b < N then dig (tx b) else none
theorem dgt_lt {N : Nat} {tx : Nat → Int32} {b d : Nat} (h : dgt N tx b = some d) : b < N ∧ d < 10 := by
  unfold dgt at h
  split at h
  · rename_i q
    unfold dig at h
    split at h
    · rename_i z
      injection h with h
      exact ⟨q, by omega⟩
    · contradiction
  · contradiction
theorem x_sign {hx hm : AH} {r N : Nat} {tx : Nat → Int32} (t : TX hx hm r N tx) (hN : N ≤ 80) {a : Nat} (ha : a < 1000) : f_X9_signAt r (nI a) hx = some (if a < N then tx a else -9, hx) := by
  unfold f_X9_signAt
  rw [if_neg (nI_pos (by omega)), t.1]
  by_cases e : a < N
  · rw [if_neg (nI_ge e (by omega)), if_pos (inb_nI (by omega) (by omega)), nI_cl (by omega), (t.2.2 a e).1, if_pos e]
  · rw [if_pos (nI_le (by omega) (by omega)), if_neg e]
theorem m_byte {hx hm : AH} {r N : Nat} {tx : Nat → Int32} (t : TX hx hm r N tx) (hr : r < 4) (hN : N ≤ 80) {a : Nat} (ha : a < 1000) : f_X12_byteAt (nI r) (nI a) hm = some (if a < N then tx a else 0, hm) := by
  unfold f_X12_byteAt
  rw [if_pos (inb_nI hr (by omega)), nI_cl (by omega), t.2.1]
  by_cases e : a < N
  · rw [if_neg (nI_ge e (by omega)), ix80, if_pos (inb_nI (by omega) (by omega)), nI_cl (by omega), (t.2.2 a e).2, if_pos e]
  · rw [if_pos (nI_le (by omega) (by omega)), if_neg e]
def dgX : Option Nat → Int32
  | some d => nI d
  | none => -9
theorem x_fig {hx hm : AH} {r N : Nat} {tx : Nat → Int32} (t : TX hx hm r N tx) (hN : N ≤ 80) {a : Nat} (ha : a < 1000) : f_X9_figureAt r (nI a) hx = some (dgX (dgt N tx a), hx) := by
  have i48 : (48 : Int32).toInt = 48 := rfl
  have i57 : (57 : Int32).toInt = 57 := rfl
  unfold f_X9_figureAt
  rw [x_sign t hN ha, bd_some]
  unfold dgt
  by_cases e : a < N
  · rw [if_pos e, if_pos e]
    unfold dig
    by_cases z1 : tx a < 48
    · rw [if_pos z1, if_neg]
      · rfl
      · rw [i_lt, i48] at z1; omega
    · rw [if_neg z1]
      by_cases z2 : (57 : Int32) < tx a
      · rw [if_pos z2, if_neg]
        · rfl
        · rw [i_lt, i57] at z2; omega
      · rw [i_lt, i48] at z1
        rw [if_neg z2]
        rw [i_lt, i57] at z2
        rw [if_pos (by omega)]
        show some (tx a - 48, hx) = some (nI ((tx a).toInt - 48).toNat, hx)
        congr 2
        have : tx a = nI ((tx a).toInt).toNat := by
          apply Int32.toInt_inj.mp
          rw [nI_toInt (by omega)]; omega
        rw [this, show (48 : Int32) = nI 48 from rfl, nI_sub (by omega), nI_toInt (by omega)]
        congr 1
        omega
  · rw [if_neg e, if_neg e]
    rfl
/-- what the reference makes of a byte -/
def dgM (N : Nat) (tx : Nat → Int32) (a : Nat) : Int32 := (if a < N then tx a else 0) - 48
theorem dgM_cs {N : Nat} {tx : Nat → Int32} {a : Nat} : (∃ d, d < 10 ∧ dgt N tx a = some d ∧ dgM N tx a = nI d) ∨ (dgt N tx a = none ∧ ¬ (0 ≤ (dgM N tx a).toInt ∧ (dgM N tx a).toInt ≤ 9)) := by
  have key : ∀ t : Int32, (∃ d, d < 10 ∧ dig t = some d ∧ t - 48 = nI d) ∨ (dig t = none ∧ ¬ (0 ≤ (t - 48).toInt ∧ (t - 48).toInt ≤ 9)) := by
    intro t
    have hr := i_rng t
    unfold dig
    by_cases z : 48 ≤ t.toInt ∧ t.toInt ≤ 57
    · left
      refine ⟨(t.toInt - 48).toNat, by omega, by rw [if_pos z], ?_⟩
      have : t = nI (t.toInt).toNat := by
        apply Int32.toInt_inj.mp
        rw [nI_toInt (by omega)]; omega
      rw [this, show (48 : Int32) = nI 48 from rfl, nI_sub (by omega), nI_toInt (by omega)]
      congr 1
      omega
    · right
      refine ⟨by rw [if_neg z], ?_⟩
      have i48 : (48 : Int32).toInt = 48 := rfl
      rw [Int32.toInt_sub, i48]
      by_cases w : -2147483648 ≤ t.toInt - 48
      · rw [Int.bmod_eq_of_le (by omega) (by omega)]; omega
      · have : (t.toInt - 48).bmod (2 ^ 32) = t.toInt - 48 + 2 ^ 32 := by
          rw [← Int.add_bmod_right]
          exact Int.bmod_eq_of_le (by omega) (by omega)
        rw [this]; omega
  unfold dgt dgM
  by_cases e : a < N
  · rw [if_pos e, if_pos e]; exact key (tx a)
  · rw [if_neg e, if_neg e]
    right
    refine ⟨rfl, ?_⟩
    have : ((0 : Int32) - 48).toInt = -48 := rfl
    omega
/-- the drafts of both -/
def DX (h : AH) (P : PD) (su : Nat → Nat) (a : Nat) : Prop := XPl h 1 P ∧ (∀ k, k < P.m → h.1 17 1 k = nI (su k)) ∧ h.1 11 0 1 = nI a
def DM (h : AH) (P : PD) (su : Nat → Nat) (a : Nat) : Prop := h.1 34 0 21 = nI P.n ∧ h.1 34 0 22 = nI P.m ∧ (∀ x, x < P.n → h.1 45 0 x = nI (P.ki x)) ∧ (∀ k, k < P.m → h.1 46 0 k = nI (P.co k) ∧ h.1 47 0 k = P.pa k ∧ h.1 48 0 k = nI (su k)) ∧ h.1 34 0 19 = nI a
theorem DX.at {h : AH} {P : PD} {su : Nat → Nat} {a : Nat} (d : DX h P su a) (b : Nat) : DX (hsI h 11 0 1 (nI b)) P su b := by
  obtain ⟨d1, d2, d3⟩ := d
  unfold XPl at d1
  refine ⟨?_, ?_, by rw [hsI_1, if_pos ⟨rfl, rfl, rfl⟩]⟩
  · unfold XPl
    rw [hsI_k (show (12 : Nat) ≠ 11 by decide), hsI_k (show (13 : Nat) ≠ 11 by decide), hsI_k (show (14 : Nat) ≠ 11 by decide), hsI_k (show (15 : Nat) ≠ 11 by decide), hsI_k (show (16 : Nat) ≠ 11 by decide)]
    exact d1
  · rw [hsI_k (show (17 : Nat) ≠ 11 by decide)]; exact d2
theorem DM.at {h : AH} {P : PD} {su : Nat → Nat} {a : Nat} (d : DM h P su a) (b : Nat) : DM (hsI h 34 0 19 (nI b)) P su b := by
  obtain ⟨d1, d2, d3, d4, d5⟩ := d
  refine ⟨?_, ?_, ?_, ?_, by rw [hsI_1, if_pos ⟨rfl, rfl, rfl⟩]⟩
  · rw [hsI_1, if_neg (by omega)]; exact d1
  · rw [hsI_1, if_neg (by omega)]; exact d2
  · rw [hsI_k (show (45 : Nat) ≠ 34 by decide)]; exact d3
  · rw [hsI_k (show (46 : Nat) ≠ 34 by decide), hsI_k (show (47 : Nat) ≠ 34 by decide), hsI_k (show (48 : Nat) ≠ 34 by decide)]; exact d4
theorem DM.num {h : AH} {P : PD} {su : Nat → Nat} {a : Nat} (d : DM h P su a) (v : Int32) : DM (hsI h 34 0 20 v) P su a := by
  obtain ⟨d1, d2, d3, d4, d5⟩ := d
  refine ⟨?_, ?_, ?_, ?_, ?_⟩
  · rw [hsI_1, if_neg (by omega)]; exact d1
  · rw [hsI_1, if_neg (by omega)]; exact d2
  · rw [hsI_k (show (45 : Nat) ≠ 34 by decide)]; exact d3
  · rw [hsI_k (show (46 : Nat) ≠ 34 by decide), hsI_k (show (47 : Nat) ≠ 34 by decide), hsI_k (show (48 : Nat) ≠ 34 by decide)]; exact d4
  · rw [hsI_1, if_neg (by omega)]; exact d5
