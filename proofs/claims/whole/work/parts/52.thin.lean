/-! ===== thin ===== -/
def Gd (C : Nat → Bool) (u : Nat → Nat) (lo hi : Nat) : Option Nat → Prop
  | none => ∀ z, lo ≤ z → z < hi → C z = false
  | some y => lo ≤ y ∧ y < hi ∧ C y = true ∧ (∀ z, lo ≤ z → z < hi → C z = true → u y ≤ u z) ∧ ∀ z, lo ≤ z → z < y → C z = true → u y < u z
theorem Gd.uniq {C : Nat → Bool} {u : Nat → Nat} {lo hi : Nat} : ∀ {o q : Option Nat}, Gd C u lo hi o → Gd C u lo hi q → o = q
  | none, none, _, _ => rfl
  | none, some y, a, ⟨b, c, d, _⟩ => by rw [a y b c] at d; contradiction
  | some y, none, ⟨b, c, d, _⟩, a => by rw [a y b c] at d; contradiction
  | some y, some z, ⟨a1, a2, a3, a4, a5⟩, ⟨b1, b2, b3, b4, b5⟩ => by
    have h1 := a4 z b1 b2 b3
    have h2 := b4 y a1 a2 a3
    by_cases e : y < z
    · have := b5 y a1 e a3
      omega
    · by_cases f : z < y
      · have := a5 z b1 f b3
        omega
      · rw [show y = z by omega]
def oI : Option Nat → Int32
  | none => -9
  | some y => nI y
def tU (C : Nat → Bool) (u : Nat → Nat) : Nat → Option Nat
  | 0 => none
  | j + 1 => if C j = true then (match tU C u j with | none => some j | some y => if u y ≤ u j then some y else some j) else tU C u j
theorem tU_g (C : Nat → Bool) (u : Nat → Nat) : ∀ j, Gd C u 0 j (tU C u j)
  | 0 => fun z _ h => by omega
  | j + 1 => by
    have ih := tU_g C u j
    show Gd C u 0 (j + 1) (if C j = true then _ else _)
    by_cases c : C j = true
    · rw [if_pos c]
      cases e : tU C u j with
      | none =>
        rw [e] at ih
        refine ⟨Nat.zero_le _, by omega, c, fun z _ hz cz => ?_, fun z _ hz cz => ?_⟩
        · by_cases q : z = j
          · rw [q]; exact Nat.le_refl _
          · rw [ih z (Nat.zero_le _) (by omega)] at cz; contradiction
        · rw [ih z (Nat.zero_le _) (by omega)] at cz; contradiction
      | some y =>
        rw [e] at ih
        obtain ⟨a1, a2, a3, a4, a5⟩ := ih
        by_cases q : u y ≤ u j
        · simp only [if_pos q]
          refine ⟨a1, by omega, a3, fun z h1 h2 h3 => ?_, a5⟩
          by_cases r : z = j
          · rw [r]; exact q
          · exact a4 z h1 (by omega) h3
        · simp only [if_neg q]
          refine ⟨Nat.zero_le _, by omega, c, fun z h1 h2 h3 => ?_, fun z h1 h2 h3 => ?_⟩
          · by_cases r : z = j
            · rw [r]; exact Nat.le_refl _
            · have := a4 z h1 (by omega) h3
              omega
          · have := a4 z h1 (by omega) h3
            omega
    · rw [if_neg c]
      cases e : tU C u j with
      | none =>
        rw [e] at ih
        intro z h1 h2
        by_cases r : z = j
        · rw [r]; simpa using c
        · exact ih z h1 (by omega)
      | some y =>
        rw [e] at ih
        obtain ⟨a1, a2, a3, a4, a5⟩ := ih
        refine ⟨a1, by omega, a3, fun z h1 h2 h3 => ?_, a5⟩
        by_cases r : z = j
        · rw [r] at h3; exact absurd h3 c
        · exact a4 z h1 (by omega) h3
def tD (C : Nat → Bool) (u : Nat → Nat) (n : Nat) : Nat → Option Nat
  | 0 => none
  | i + 1 => if C (n - 1 - i) = true then (match tD C u n i with | none => some (n - 1 - i) | some y => if u y < u (n - 1 - i) then some y else some (n - 1 - i)) else tD C u n i
theorem tD_g (C : Nat → Bool) (u : Nat → Nat) (n : Nat) : ∀ i, i ≤ n → Gd C u (n - i) n (tD C u n i)
  | 0, _ => fun z _ h => by omega
  | i + 1, hi => by
    have ih := tD_g C u n i (by omega)
    show Gd C u (n - (i + 1)) n (if C (n - 1 - i) = true then _ else _)
    by_cases c : C (n - 1 - i) = true
    · rw [if_pos c]
      cases e : tD C u n i with
      | none =>
        rw [e] at ih
        refine ⟨by omega, by omega, c, fun z h1 hz cz => ?_, fun z h1 hz cz => by omega⟩
        by_cases q : z = n - 1 - i
        · rw [q]; exact Nat.le_refl _
        · rw [ih z (by omega) (by omega)] at cz; contradiction
      | some y =>
        rw [e] at ih
        obtain ⟨a1, a2, a3, a4, a5⟩ := ih
        by_cases q : u y < u (n - 1 - i)
        · simp only [if_pos q]
          refine ⟨by omega, by omega, a3, fun z h1 h2 h3 => ?_, fun z h1 h2 h3 => ?_⟩
          · by_cases r : z = n - 1 - i
            · rw [r]; omega
            · exact a4 z (by omega) (by omega) h3
          · by_cases r : z = n - 1 - i
            · rw [r]; exact q
            · exact a5 z (by omega) (by omega) h3
        · simp only [if_neg q]
          refine ⟨by omega, by omega, c, fun z h1 h2 h3 => ?_, fun z h1 h2 h3 => by omega⟩
          by_cases r : z = n - 1 - i
          · rw [r]; exact Nat.le_refl _
          · have := a4 z (by omega) (by omega) h3
            omega
    · rw [if_neg c]
      cases e : tD C u n i with
      | none =>
        rw [e] at ih
        intro z h1 h2
        by_cases r : z = n - 1 - i
        · rw [r]; simpa using c
        · exact ih z (by omega) (by omega)
      | some y =>
        rw [e] at ih
        obtain ⟨a1, a2, a3, a4, a5⟩ := ih
        refine ⟨by omega, by omega, a3, fun z h1 h2 h3 => ?_, fun z h1 h2 h3 => ?_⟩
        · by_cases r : z = n - 1 - i
          · rw [r] at h3; exact absurd h3 c
          · exact a4 z (by omega) (by omega) h3
        · by_cases r : z = n - 1 - i
          · rw [r] at h3; exact absurd h3 c
          · exact a5 z (by omega) (by omega) h3
theorem tU_tD (C : Nat → Bool) (u : Nat → Nat) (n : Nat) : tU C u n = tD C u n n := by
  have h := tD_g C u n n (Nat.le_refl _)
  rw [Nat.sub_self] at h
  exact (tU_g C u n).uniq h
