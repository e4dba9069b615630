/-! ===== subsets as numbers; what stands depends on what is reached and stands ===== -/
theorem l_div (a b : Nat) : (a &&& b) / 2 = (a / 2) &&& (b / 2) := by
  have := Nat.shiftRight_and_distrib (a := a) (b := b) (i := 1)
  simpa [Nat.shiftRight_eq_div_pow] using this
theorem l_mod (a b : Nat) : (a &&& b) % 2 = if a % 2 = 1 ∧ b % 2 = 1 then 1 else 0 := by
  have h := Nat.testBit_and a b 0
  rw [Nat.testBit_zero, Nat.testBit_zero, Nat.testBit_zero] at h
  have h1 := Nat.mod_two_eq_zero_or_one (a &&& b)
  have h2 := Nat.mod_two_eq_zero_or_one a
  have h3 := Nat.mod_two_eq_zero_or_one b
  rcases h2 with e | e <;> rcases h3 with f | f <;> rcases h1 with g | g <;> rw [e, f, g] at h <;> rw [e, f, g] <;> revert h <;> decide
theorem nxA : ∀ N w a, w < 2 ^ N → a &&& w = a → (a + (2 ^ N - 1 - w)) &&& w = a
  | 0, w, a, hw, h => by
    have : w = 0 := by omega
    subst this
    rw [Nat.and_zero] at h
    rw [← h]
    exact Nat.and_zero _
  | N + 1, w, a, hw, h => by
    have e : 2 ^ (N + 1) = 2 * 2 ^ N := by rw [Nat.pow_succ]; omega
    have d1 := l_div a w
    have m1 := l_mod a w
    rw [h] at d1 m1
    have ih := nxA N (w / 2) (a / 2) (by omega) d1.symm
    have d2 := l_div (a + (2 ^ (N + 1) - 1 - w)) w
    have m2 := l_mod (a + (2 ^ (N + 1) - 1 - w)) w
    have h3 : (a + (2 ^ (N + 1) - 1 - w)) / 2 = a / 2 + (2 ^ N - 1 - w / 2) := by
      split at m1 <;> omega
    rw [h3, ih] at d2
    have h4 : (a + (2 ^ (N + 1) - 1 - w)) % 2 = 1 ∧ w % 2 = 1 ↔ a % 2 = 1 := by
      split at m1 <;> omega
    by_cases q : a % 2 = 1
    · rw [if_pos (h4.mpr q)] at m2; omega
    · rw [if_neg (fun z => q (h4.mp z))] at m2; omega
theorem nxB : ∀ N w a, w < 2 ^ N → a &&& w = a → a < w → a < ((a + 2 ^ N - w) &&& w) ∧ ∀ t, t &&& w = t → a < t → ((a + 2 ^ N - w) &&& w) ≤ t
  | 0, w, a, hw, h, hl => by omega
  | N + 1, w, a, hw, h, hl => by
    have e : 2 ^ (N + 1) = 2 * 2 ^ N := by rw [Nat.pow_succ]; omega
    have d1 := l_div a w
    have m1 := l_mod a w
    rw [h] at d1 m1
    have d2 := l_div (a + 2 ^ (N + 1) - w) w
    have m2 := l_mod (a + 2 ^ (N + 1) - w) w
    by_cases q : a % 2 = 0 ∧ w % 2 = 1
    · have h3 : (a + 2 ^ (N + 1) - w) / 2 = a / 2 + (2 ^ N - 1 - w / 2) := by omega
      rw [h3, nxA N (w / 2) (a / 2) (by omega) d1.symm] at d2
      rw [if_pos (by omega)] at m2
      refine ⟨by omega, fun t ht hat => by omega⟩
    · have ij : a % 2 = w % 2 := by
        split at m1 <;> omega
      obtain ⟨ih1, ih2⟩ := nxB N (w / 2) (a / 2) (by omega) d1.symm (by omega)
      have h3 : (a + 2 ^ (N + 1) - w) / 2 = a / 2 + 2 ^ N - w / 2 := by omega
      rw [h3] at d2
      rw [if_neg (by omega)] at m2
      refine ⟨by omega, fun t ht hat => ?_⟩
      have d3 := l_div t w
      have m3 := l_mod t w
      rw [ht] at d3 m3
      have := ih2 (t / 2) d3.symm (by split at m3 <;> omega)
      omega
theorem nI_and (a b : Nat) : nI a &&& nI b = nI (a &&& b) := by
  apply Int32.toBitVec_inj.mp
  rw [Int32.toBitVec_and]
  show BitVec.ofNat 32 a &&& BitVec.ofNat 32 b = BitVec.ofNat 32 (a &&& b)
  apply BitVec.eq_of_getLsbD_eq
  intro i hi
  rw [BitVec.getLsbD_and, BitVec.getLsbD_ofNat, BitVec.getLsbD_ofNat, BitVec.getLsbD_ofNat, Nat.testBit_and]
  simp [hi]
theorem bt_nI (a : Nat) (i : Nat) (hi : i < 32) : bt (nI a) i = a.testBit i := by
  show (BitVec.ofNat 32 a).getLsbD i = _
  rw [BitVec.getLsbD_ofNat]
  simp [hi]
theorem nI_nx {a w : Nat} (ha : a < 16384) (hw : w < 16384) : (nI a - nI w) &&& nI w = nI ((a + 2 ^ 32 - w) &&& w) := by
  rw [← nI_and]
  congr 1
  apply Int32.toBitVec_inj.mp
  rw [Int32.toBitVec_sub]
  show BitVec.ofNat 32 a - BitVec.ofNat 32 w = BitVec.ofNat 32 (a + 2 ^ 32 - w)
  apply BitVec.eq_of_toNat_eq
  rw [BitVec.toNat_sub, BitVec.toNat_ofNat, BitVec.toNat_ofNat, BitVec.toNat_ofNat]
  omega
/-- the next subset of w behind a -/
def nxt (a w : Nat) : Nat := (a + 2 ^ 32 - w) &&& w
theorem nxt_sub (a w : Nat) : nxt a w &&& w = nxt a w := by
  unfold nxt
  rw [Nat.and_assoc, Nat.and_self]
theorem and_le (a w : Nat) (h : a &&& w = a) : a ≤ w := by
  rw [← h]; exact Nat.and_le_right
theorem nxt_gt {a w : Nat} (hw : w < 16384) (h : a &&& w = a) (hl : a < w) : a < nxt a w ∧ ∀ t, t &&& w = t → a < t → nxt a w ≤ t := nxB 32 w a (by omega) h hl
theorem ins_iff {a w : Nat} (ha : a < 16384) : a &&& w = a ↔ inc (nI a) (nI w) := by
  constructor
  · intro h i hi
    have : bt (nI (a &&& w)) i = true := by rw [h]; exact hi
    rw [← nI_and, bt_and, Bool.and_eq_true] at this
    exact this.2
  · intro h
    have : nI (a &&& w) = nI a := by
      rw [← nI_and]
      exact bt_ext (fun i _ => by
        rw [bt_and]
        cases e : bt (nI a) i
        · rfl
        · rw [h i e]; rfl)
    have h2 : a &&& w ≤ a := Nat.and_le_left
    exact (nI_eq (by omega) (by omega)).mp this
theorem tU_gap (C : Nat → Bool) (u : Nat → Nat) (a : Nat) : ∀ d, (∀ z, a ≤ z → z < a + d → C z = false) → tU C u (a + d) = tU C u a
  | 0, _ => rfl
  | d + 1, h => by
    have ih := tU_gap C u a d (fun z h1 h2 => h z h1 (by omega))
    show (if C (a + d) = true then _ else tU C u (a + d)) = _
    rw [if_neg (by rw [h (a + d) (by omega) (by omega)]; decide), ih]
theorem SW_anti {p : PD} (v : PV p) {s : SD} {G H : Int32} (h : ∀ i, i < p.n → bt H i = true → bt G i = true) {x : Nat} (hx : bt (SW p s G) x = true) : bt (SW p s H) x = true := by
  rw [SW, bt_ST v] at hx ⊢
  have key : ∀ i, i < p.n → (bt s.aw i || bt G i) = false → (bt s.aw i || bt H i) = false := by
    intro i hi q
    rw [Bool.or_eq_false_iff] at q ⊢
    refine ⟨q.1, ?_⟩
    cases e : bt H i
    · rfl
    · rw [h i hi e] at q; exact absurd q.2 (by decide)
  exact hx _ ⟨fun y h1 h2 h3 => (Std.cls p _ _).1 y h1 h2 (key y h1 h3), fun k h1 h2 h3 h4 => (Std.cls p _ _).2 k h1 h2 (key _ (v.con h1) h3) h4⟩
theorem SW_SN {p : PD} (v : PV p) {s : SD} {G : Int32} {x : Nat} (hx : bt (SW p s G) x = true) : bt (SN p s) x = true := by
  rw [SW, bt_ST v] at hx
  rw [SN, bt_ST v]
  have key : ∀ i, (bt s.aw i || bt G i) = false → bt s.aw i = false := fun i q => (Bool.or_eq_false_iff.mp q).1
  exact hx _ ⟨fun y h1 h2 h3 => (Std.cls p _ _).1 y h1 h2 (key y h3), fun k h1 h2 h3 h4 => (Std.cls p _ _).2 k h1 h2 (key _ h3) h4⟩
theorem SW_0 {p : PD} (v : PV p) (s : SD) : SW p s 0 = SN p s := by
  unfold SW SN
  exact ST_c v (fun i _ => by rw [bt_0, Bool.or_false]) (fun _ _ => rfl)
theorem SW_rel {p : PD} (v : PV p) {s : SD} {x : Nat} (hx : x < p.n) {G H : Int32} (h : ∀ i, bt (RC p s x) i = true → bt (SN p s) i = true → bt G i = true → bt H i = true) (hs : bt (SW p s H) x = true) : bt (SW p s G) x = true := by
  have hs' := hs
  rw [SW, bt_ST v] at hs ⊢
  refine (hs (fun y => Std p (fun i => bt s.aw i || bt H i) (fun _ => true) y ∧ (Rch p s x y → Std p (fun i => bt s.aw i || bt G i) (fun _ => true) y)) ⟨?_, ?_⟩).2 (Rch.cl p s x).1
  · intro y h1 h2 h3
    have hH := (Std.cls p (fun i => bt s.aw i || bt H i) (fun _ => true)).1 y h1 h2 h3
    refine ⟨hH, fun hr => (Std.cls p _ _).1 y h1 h2 ?_⟩
    have hsn : bt (SN p s) y = true := SW_SN v (G := H) (by rw [SW, bt_ST v]; exact hH)
    have h3' := Bool.or_eq_false_iff.mp h3
    rw [Bool.or_eq_false_iff]
    refine ⟨h3'.1, ?_⟩
    cases e : bt G y
    · rfl
    · rw [h y ((bt_RC v hx y).mpr hr) hsn e] at h3'; exact absurd h3'.2 (by decide)
  · intro k h1 h2 h3 h4
    have hH := (Std.cls p (fun i => bt s.aw i || bt H i) (fun _ => true)).2 k h1 h2 h3 (fun y hy => (h4 y hy).1)
    have h3' := Bool.or_eq_false_iff.mp h3
    refine ⟨hH, fun hr => (Std.cls p _ _).2 k h1 h2 ?_ (fun y hy => (h4 y hy).2 ?_)⟩
    · have hsn : bt (SN p s) (p.co k) = true := SW_SN v (G := H) (by rw [SW, bt_ST v]; exact hH)
      rw [Bool.or_eq_false_iff]
      refine ⟨h3'.1, ?_⟩
      cases e : bt G (p.co k)
      · rfl
      · rw [h _ ((bt_RC v hx _).mpr hr) hsn e] at h3'; exact absurd h3'.2 (by decide)
    · refine (Rch.cl p s x).2 k h1 ?_ hr y hy
      unfold us
      rw [h3'.1, Bool.and_eq_true, decide_eq_true_eq, bt_eq0]
      refine ⟨rfl, fun i hi => ?_⟩
      rw [bt_and]
      cases e : bt (p.pa k) i
      · rfl
      · have := (h4 i e).1.ng
        rw [Bool.or_eq_false_iff] at this
        rw [this.1]; rfl
