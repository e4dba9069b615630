/-! ===== scratch: what no later call reads ===== -/
def SX (h h2 : AH) : Prop := (∀ k, ¬ (k = 11 ∨ (18 ≤ k ∧ k ≤ 32)) → h2.1 k = h.1 k) ∧ h2.2 0 = h.2 0
def SM (h h2 : AH) : Prop := (∀ k, ¬ (k = 34 ∨ (45 ≤ k ∧ k ≤ 48) ∨ 55 ≤ k) → h2.1 k = h.1 k) ∧ (∀ c, ¬ ((19 ≤ c ∧ c ≤ 22) ∨ c = 38 ∨ c = 39) → h2.1 34 0 c = h.1 34 0 c) ∧ h2.2 34 = h.2 34
theorem SX.rfl {h : AH} : SX h h := ⟨fun _ _ => Eq.refl _, Eq.refl _⟩
theorem SM.rfl {h : AH} : SM h h := ⟨fun _ _ => Eq.refl _, fun _ _ => Eq.refl _, Eq.refl _⟩
theorem SX.tr {a b c : AH} (h : SX a b) (g : SX b c) : SX a c := ⟨fun k hk => (g.1 k hk).trans (h.1 k hk), g.2.trans h.2⟩
theorem SM.tr {a b c : AH} (h : SM a b) (g : SM b c) : SM a c := ⟨fun k hk => (g.1 k hk).trans (h.1 k hk), fun k hk => (g.2.1 k hk).trans (h.2.1 k hk), g.2.2.trans h.2.2⟩
theorem SX.sI {a b : AH} (h : SX a b) {k i j : Nat} {v : Int32} (hk : k = 11 ∨ (18 ≤ k ∧ k ≤ 32)) : SX a (hsI b k i j v) := ⟨fun q hq => by rw [hsI_k (by intro z; subst z; exact hq hk)]; exact h.1 q hq, h.2⟩
theorem SX.fl {a b : AH} (h : SX a b) {k i lo n : Nat} {f : Nat → Int32} (hk : k = 11 ∨ (18 ≤ k ∧ k ≤ 32)) : SX a (hfl b k i lo n f) := ⟨fun q hq => by rw [hfl_k (by intro z; subst z; exact hq hk)]; exact h.1 q hq, h.2⟩
theorem SX.cp {a b : AH} (h : SX a b) {k0 i0 k i sp lo n : Nat} (hk : k = 11 ∨ (18 ≤ k ∧ k ≤ 32)) : SX a (hcp b k0 i0 k i sp lo n) := ⟨fun q hq => by rw [hcp_k (by intro z; subst z; exact hq hk)]; exact h.1 q hq, by rw [hcp_2]; exact h.2⟩
theorem SX.sL {a b : AH} (h : SX a b) {k i j : Nat} {v : Int64} (hk : k ≠ 0) : SX a (hsL b k i j v) := ⟨h.1, by
  rw [← h.2]
  funext x y
  rw [hsL_2, if_neg (fun z => hk z.1.symm)]⟩
theorem SM.sI {a b : AH} (h : SM a b) {k j : Nat} {v : Int32} (hk : (45 ≤ k ∧ k ≤ 48) ∨ 55 ≤ k ∨ (k = 34 ∧ ((19 ≤ j ∧ j ≤ 22) ∨ j = 38 ∨ j = 39))) : SM a (hsI b k 0 j v) := by
  refine ⟨fun q hq => ?_, fun c hc => ?_, h.2.2⟩
  · rw [hsI_k (by omega)]; exact h.1 q hq
  · rw [hsI_1, if_neg (by omega)]; exact h.2.1 c hc
theorem SM.fl {a b : AH} (h : SM a b) {k lo n : Nat} {f : Nat → Int32} (hk : (45 ≤ k ∧ k ≤ 48) ∨ 55 ≤ k) : SM a (hfl b k 0 lo n f) := by
  refine ⟨fun q hq => ?_, fun c hc => ?_, h.2.2⟩
  · rw [hfl_k (by omega)]; exact h.1 q hq
  · rw [hfl_1, if_neg (by omega)]; exact h.2.1 c hc
theorem SX.k {h h2 : AH} (a : SX h h2) : KX h h2 := ⟨fun k _ _ => a.1 k (by omega), fun k _ _ => by rw [a.1 k (by omega)]⟩
theorem SM.k {h h2 : AH} (a : SM h h2) : KM h h2 := ⟨fun k _ _ => a.1 k (by omega), fun k _ _ => a.1 k (by omega), fun c hc => a.2.1 c (by omega)⟩
theorem Bk.sc {hx hm hx2 hm2 : AH} (b : Bk hx hm) (f : SX hx hx2) (g : SM hm hm2) : Bk hx2 hm2 := by
  obtain ⟨⟨a1, a2, a3, a4, a5⟩, a6, a7⟩ := b
  refine ⟨⟨?_, ?_, ?_, ?_, ?_⟩, a6.fr (f.1 2 (by omega)) (f.1 3 (by omega)) (g.1 36 (by omega)) (g.1 37 (by omega)), a7.fr (f.1 5 (by omega)) (f.1 6 (by omega)) (g.1 39 (by omega)) (g.1 40 (by omega))⟩
  · rw [f.1 0 (by omega), g.2.1 0 (by omega)]; exact a1
  · rw [f.1 0 (by omega), g.2.1 2 (by omega)]; exact a2
  · rw [f.2, g.2.2]; exact a3
  · rw [f.2, g.2.2]; exact a4
  · rw [f.1 33 (by omega), g.1 35 (by omega)]; exact a5
theorem Rel.sc {hx hm hx2 hm2 : AH} (h : Rel hx hm) (f : SX hx hx2) (g : SM hm hm2) : Rel hx2 hm2 := by
  obtain ⟨b, p, s, d⟩ := h
  exact ⟨b.sc f g, p, s, d.fr f.k g.k⟩
/-- a loop by an invariant: at every step it ends well or goes on -/
theorem lpi {β σ : Type} (L : Nat → σ → β) (N : Nat) (I : Nat → σ → Prop) (Q : β → Prop) (hs : ∀ F j t, j < N → I j t → Q (L (F + 1) t) ∨ ∃ t2, I (j + 1) t2 ∧ L (F + 1) t = L F t2) (hx : ∀ F t, I N t → Q (L (F + 1) t)) (hN : N < 5000) (t : σ) (h0 : I 0 t) : Q (L FU t) := by
  have key : ∀ F j t, j ≤ N → N - j < F → I j t → Q (L F t) := by
    intro F
    induction F with
    | zero => intro j _ _ h; omega
    | succ F ih =>
      intro j t hj hF hI
      by_cases e : j = N
      · subst e; exact hx F t hI
      · rcases hs F j t (by omega) hI with q | ⟨t2, h2, e2⟩
        · exact q
        · rw [e2]; exact ih (j + 1) t2 (by omega) (by omega) h2
  exact key FU 0 t (Nat.zero_le _) (by show N - 0 < 5000; omega) h0
def anyN (P : Nat → Bool) : Nat → Bool
  | 0 => false
  | j + 1 => anyN P j || P j
theorem anyN_iff (P : Nat → Bool) : ∀ m, anyN P m = true ↔ ∃ k, k < m ∧ P k = true
  | 0 => ⟨fun h => by contradiction, fun ⟨k, h, _⟩ => by omega⟩
  | m + 1 => by
    show (anyN P m || P m) = true ↔ _
    rw [Bool.or_eq_true, anyN_iff P m]
    constructor
    · rintro (⟨k, a, b⟩ | h)
      · exact ⟨k, by omega, b⟩
      · exact ⟨m, by omega, h⟩
    · rintro ⟨k, a, b⟩
      by_cases e : k = m
      · subst e; exact Or.inr b
      · exact Or.inl ⟨k, by omega, b⟩
theorem anyN_f {P : Nat → Bool} {m : Nat} : anyN P m = false ↔ ∀ k, k < m → P k = false := by
  rw [← Bool.not_eq_true, anyN_iff]
  constructor
  · intro h k hk
    cases e : P k
    · rfl
    · exact absurd ⟨k, hk, e⟩ h
  · rintro h ⟨k, a, b⟩
    rw [h k a] at b; contradiction
/-- the first that is such, or -9 -/
def fsN (C : Nat → Bool) (m : Nat) : Int32 := oI (tU C (fun _ => 0) m)
theorem fsN_some {C : Nat → Bool} {m j : Nat} (hj : j < m) (h : C j = true) (hb : ∀ k, k < j → C k = false) : fsN C m = nI j := by
  unfold fsN
  have : tU C (fun _ => 0) m = some j := (tU_g C (fun _ => 0) m).uniq ⟨Nat.zero_le _, hj, h, fun _ _ _ _ => Nat.le_refl _, fun z _ h2 h3 => by rw [hb z h2] at h3; contradiction⟩
  rw [this]
  rfl
theorem fsN_none {C : Nat → Bool} {m : Nat} (hb : ∀ k, k < m → C k = false) : fsN C m = -9 := by
  unfold fsN
  have : tU C (fun _ => 0) m = none := (tU_g C (fun _ => 0) m).uniq (q := none) (fun z _ h => hb z h)
  rw [this]
  rfl
/-- from the top down, the last taken is the first that is such -/
def fdN (C : Nat → Bool) (m : Nat) (i : Nat) : Int32 := oI (tD C (fun _ => 0) m i)
theorem fdN_all (C : Nat → Bool) (m : Nat) : fdN C m m = fsN C m := by
  unfold fdN fsN
  rw [tU_tD]
theorem fdN_s (C : Nat → Bool) (m i : Nat) : fdN C m (i + 1) = if C (m - 1 - i) = true then nI (m - 1 - i) else fdN C m i := by
  show oI (if C (m - 1 - i) = true then _ else _) = _
  by_cases e : C (m - 1 - i) = true
  · rw [if_pos e, if_pos e]
    cases tD C (fun _ => 0) m i with
    | none => rfl
    | some y => rfl
  · rw [if_neg e, if_neg e]
    rfl
theorem nI_dn {n i : Nat} (h : i < n) : nI (n - 1 - i) + (-1) = (if i + 1 = n then -1 else nI (n - 1 - (i + 1))) := by
  by_cases e : i + 1 = n
  · rw [if_pos e, show n - 1 - i = 0 by omega]; rfl
  · rw [if_neg e]
    have : nI (n - 1 - i) = nI (n - 1 - (i + 1)) + 1 := by rw [nI_1]; congr 1; omega
    rw [this, Int32.add_assoc]
    exact Int32.add_zero _
theorem nI_n9 {y : Nat} (hy : y < 100000) : ¬ nI y = -9 := by
  intro z
  have := congrArg Int32.toInt z
  rw [nI_toInt (by omega)] at this
  have h2 : (-9 : Int32).toInt = -9 := rfl
  omega
theorem i1n : (0 : Int32) - 1 < 0 := by decide
