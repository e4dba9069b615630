/-! ===== whose ===== -/
noncomputable def okS (p : PD) (s : SD) (x : Nat) (C : Int32) : Bool := bt (SW p s (C ^^^ (-1))) x
def rmI (C : Int32) (y : Nat) : Int32 := C &&& (((1 : Int32) <<< (nI y &&& 31)) ^^^ (-1))
theorem bt_rmI {C : Int32} {y : Nat} (hy : y < 32) {i : Nat} : bt (rmI C y) i = true ↔ bt C i = true ∧ ¬ i = y := by
  unfold rmI
  rw [bt_and, Bool.and_eq_true, bt_not']
  constructor
  · rintro ⟨a, b, c⟩
    refine ⟨a, fun z => ?_⟩
    rw [z] at c
    rw [(bt_one hy).mpr rfl] at c
    contradiction
  · rintro ⟨a, b⟩
    have h32 : i < 32 := by
      apply Classical.byContradiction
      intro z
      rw [bt_ge (by omega)] at a
      contradiction
    refine ⟨a, h32, ?_⟩
    cases e : bt ((1 : Int32) <<< (nI y &&& 31)) i
    · rfl
    · exact absurd ((bt_one hy).mp e) b
theorem okS_mono {p : PD} (v : PV p) {s : SD} {x : Nat} {C D : Int32} (h : inc C D) (hC : okS p s x C = true) : okS p s x D = true := by
  have hn := v.n10
  refine SW_anti v (fun i hi q => ?_) hC
  rw [bt_not'] at q ⊢
  refine ⟨q.1, ?_⟩
  cases e : bt C i
  · rfl
  · rw [h i e] at q; exact absurd q.2 (by decide)
/-- the lean sets of the reference -/
noncomputable def leanM (p : PD) (s : SD) (x : Nat) (C : Int32) : Bool := okS p s x C && !anyN (fun y => bt C y && okS p s x (rmI C y)) p.n
theorem m_stC {h : AH} {p : PD} {s : SD} (c : MC h p s) (C : Int32) : f_X12_standing C (AL p.m) h = some (SW p s (C ^^^ (-1)), h) := by
  have hm := c.1.m14
  have hn := c.1.n10
  rw [m_standing c, SW, ST_c c.1 (g' := fun i => bt s.aw i || bt (C ^^^ (-1)) i) (r' := fun _ => true) (fun x hx => ?_) (fun k hk => ?_)]
  · rw [gM, bt_not _ (by omega), Bool.or_comm]
  · rw [bt_AL (by omega) (by omega), decide_eq_true hk]
theorem m_isLean {h : AH} {p : PD} {s : SD} (c : MC h p s) {x : Nat} (hx : x < p.n) (C : Int32) : f_X12_isLean C (nI x) h = some (if leanM p s x C = true then 1 else 0, h) := by
  have hn := c.1.n10
  unfold f_X12_isLean
  rw [m_allR c, bd_some, m_stC c, bd_some, m_has _ (by omega), bd_some]
  have := lpi (fun F (q : Int32 × Int32) => l_X12_isLean_10 F C (nI x) q.1 q.2 h) p.n
    (fun j q => q.2 = nI j ∧ q.1 = if (okS p s x C && !anyN (fun y => bt C y && okS p s x (rmI C y)) j) = true then 1 else 0)
    (fun o => o = some (if leanM p s x C = true then 1 else 0, h)) (by
    rintro F j ⟨f, i⟩ hj ⟨q1, q2⟩
    simp only at q1 q2
    subst q1 q2
    show b_X12_isLean_10 (l_X12_isLean_10 F) C (nI x) _ (nI j) h = _ ∨ ∃ t2 : Int32 × Int32, _ ∧ b_X12_isLean_10 (l_X12_isLean_10 F) C (nI x) _ (nI j) h = l_X12_isLean_10 F C (nI x) t2.1 t2.2 h
    unfold b_X12_isLean_10
    rw [c.n, if_neg (nI_ge hj (by omega)), if10, m_has _ (by omega), bd_some, if10, m_allR c, bd_some]
    have hst : f_X12_standing (C &&& (((1 : Int32) <<< (nI j &&& 31)) ^^^ (-1))) (AL p.m) h = some (SW p s (rmI C j ^^^ (-1)), h) := m_stC c (rmI C j)
    rw [hst, bd_some, m_has _ (by omega), bd_some, if10, nI_1]
    by_cases e : (okS p s x C && !anyN (fun y => bt C y && okS p s x (rmI C y)) j) = true
    · right
      rw [if_pos e]
      rw [Bool.and_eq_true, Bool.not_eq_true'] at e
      refine ⟨(if (okS p s x C && !anyN (fun y => bt C y && okS p s x (rmI C y)) (j + 1)) = true then 1 else 0, nI (j + 1)), ⟨rfl, rfl⟩, ?_⟩
      have hs : anyN (fun y => bt C y && okS p s x (rmI C y)) (j + 1) = (anyN (fun y => bt C y && okS p s x (rmI C y)) j || (bt C j && okS p s x (rmI C j))) := rfl
      simp only [hs, e.1, e.2, Bool.false_or, Bool.true_and]
      by_cases f : bt C j = true
      · rw [if_pos f, f, Bool.true_and]
        by_cases g : okS p s x (rmI C j) = true
        · have g' : bt (SW p s (rmI C j ^^^ (-1))) x = true := g
          rw [if_pos g', g, if_neg (by decide)]
        · have g' : ¬ bt (SW p s (rmI C j ^^^ (-1))) x = true := g
          rw [if_neg g', if_pos (by simpa using g)]
      · rw [if_neg f, if_pos (by simp [f])]
    · left
      rw [if_neg e]
      have : ¬ leanM p s x C = true := by
        intro z
        apply e
        unfold leanM at z
        rw [Bool.and_eq_true, Bool.not_eq_true', anyN_f] at z
        rw [Bool.and_eq_true, Bool.not_eq_true', anyN_f]
        exact ⟨z.1, fun k hk => z.2 k (by omega)⟩
      rw [if_neg this, if_neg e]) (by
    rintro F ⟨f, i⟩ ⟨q1, q2⟩
    simp only at q1 q2
    subst q1 q2
    show b_X12_isLean_10 (l_X12_isLean_10 F) C (nI x) _ (nI p.n) h = _
    unfold b_X12_isLean_10
    rw [c.n, if_pos (Int32.le_refl _)]
    rfl) (by omega) (if bt (SW p s (C ^^^ (-1))) x = true then 1 else 0, 0) ⟨rfl, by
      show (if bt (SW p s (C ^^^ (-1))) x = true then (1 : Int32) else 0) = if (okS p s x C && !false) = true then 1 else 0
      rw [Bool.not_false, Bool.and_true]; rfl⟩
  have this' : l_X12_isLean_10 FU C (nI x) (if bt (SW p s (C ^^^ (-1))) x = true then 1 else 0) 0 h = some (if leanM p s x C = true then 1 else 0, h) := this
  rw [this', bd_some]
  unfold c_X12_isLean_40
  rw [znc]
/-- unions of chosen sets -/
def un (P : Nat → Bool) (o : Int32) : Nat → Int32
  | 0 => o
  | t + 1 => un P o t ||| (if P t = true then nI t else 0)
theorem bt_un (P : Nat → Bool) (o : Int32) (i : Nat) : ∀ t, bt (un P o t) i = true ↔ bt o i = true ∨ ∃ z, z < t ∧ P z = true ∧ bt (nI z) i = true
  | 0 => ⟨Or.inl, fun h => by
      rcases h with h | ⟨z, hz, _⟩
      · exact h
      · omega⟩
  | t + 1 => by
    show bt (un P o t ||| (if P t = true then nI t else 0)) i = true ↔ _
    rw [bt_or, Bool.or_eq_true, bt_un P o i t]
    constructor
    · rintro ((h | ⟨z, a, b⟩) | h)
      · exact Or.inl h
      · exact Or.inr ⟨z, by omega, b⟩
      · split at h
        · exact Or.inr ⟨t, by omega, by assumption, h⟩
        · rw [bt_0] at h; contradiction
    · rintro (h | ⟨z, a, b, c⟩)
      · exact Or.inl (Or.inl h)
      · by_cases e : z = t
        · subst e
          right
          rw [if_pos b]; exact c
        · exact Or.inl (Or.inr ⟨z, by omega, b, c⟩)
theorem or0 (a : Int32) : a ||| 0 = a := bt_ext (fun i _ => by rw [bt_or, bt_0, Bool.or_false])
theorem un_gap (P : Nat → Bool) (o : Int32) (a : Nat) : ∀ d, (∀ z, a ≤ z → z < a + d → P z = false) → un P o (a + d) = un P o a
  | 0, _ => rfl
  | d + 1, h => by
    have ih := un_gap P o a d (fun z h1 h2 => h z h1 (by omega))
    show un P o (a + d) ||| (if P (a + d) = true then nI (a + d) else 0) = _
    rw [if_neg (by rw [h (a + d) (by omega) (by omega)]; decide), or0, ih]
theorem m_someL {h : AH} {p : PD} {s : SD} (c : MC h p s) {x : Nat} (hx : x < p.n) (x2 : Int32) : l_X12_whose_50 FU (nI x) x2 0 0 h = some (un (fun t => leanM p s x (nI t)) 0 (2 ^ p.n), h) := by
  have hn := c.1.n10
  have h10 : 2 ^ p.n ≤ 2 ^ 10 := Nat.pow_le_pow_right (by omega) hn
  have hp : 0 < 2 ^ p.n := Nat.two_pow_pos _
  have := lp0 (fun F t => l_X12_whose_50 F (nI x) x2 (un (fun t => leanM p s x (nI t)) 0 t) (nI t) h) (2 ^ p.n) (some (un (fun t => leanM p s x (nI t)) 0 (2 ^ p.n), h)) (by
    intro F a ha
    show b_X12_whose_50 (l_X12_whose_50 F) (nI x) x2 _ (nI a) h = l_X12_whose_50 F (nI x) x2 (un (fun t => leanM p s x (nI t)) 0 a ||| (if leanM p s x (nI a) = true then nI a else 0)) (nI (a + 1)) h
    unfold b_X12_whose_50
    rw [m_allC c, bd_some, AL_nI p.n (by omega), if_neg (fun z => by have := (nI_ltI (by omega) (by omega)).mp z; omega), m_isLean c hx, bd_some, if10, nI_1]
    by_cases e : leanM p s x (nI a) = true
    · rw [if_pos e, if_pos e]
    · rw [if_neg e, if_neg e]) (by
    intro F
    show b_X12_whose_50 (l_X12_whose_50 F) (nI x) x2 _ (nI (2 ^ p.n)) h = _
    unfold b_X12_whose_50
    rw [m_allC c, bd_some, AL_nI p.n (by omega), if_pos ((nI_ltI (by omega) (by omega)).mpr (by omega))]) (by omega)
  exact this
/-! each way -/
noncomputable def eW (p : PD) (s : SD) (x y : Nat) : Bool := (decide (p.ki y = 3) || decide (p.ki y = 5)) && !bt (SW p s ((1 : Int32) <<< (nI y &&& 31))) x
theorem m_eachL {h : AH} {p : PD} {s : SD} (c : MC h p s) {x : Nat} (hx : x < p.n) (x3 : Int32) : l_X12_whose_22 FU (nI x) 0 x3 0 h = some (ms (eW p s x) p.n, h) := by
  have hn := c.1.n10
  have := lp0 (fun F j => l_X12_whose_22 F (nI x) (ms (eW p s x) j) x3 (nI j) h) p.n (some (ms (eW p s x) p.n, h)) (by
    intro F j hj
    show b_X12_whose_22 (l_X12_whose_22 F) (nI x) _ x3 (nI j) h = _
    unfold b_X12_whose_22
    rw [c.n, if_neg (nI_ge hj (by omega)), m_isAct c hj, bd_some, if10, m_standW c, bd_some, m_has _ (by omega), bd_some, if10, nI_1]
    by_cases e : (decide (p.ki j = 3) || decide (p.ki j = 5)) = true
    · rw [if_pos e]
      by_cases f : bt (SW p s ((1 : Int32) <<< (nI j &&& 31))) x = true
      · rw [if_pos f, ms_n (by unfold eW; rw [f]; simp)]
      · rw [if_neg f, ms_s (by unfold eW; rw [e, Bool.true_and]; simpa using f)]
    · rw [if_neg e, ms_n (by unfold eW; simp [e])]) (by
    intro F
    show b_X12_whose_22 (l_X12_whose_22 F) (nI x) _ x3 (nI p.n) h = _
    unfold b_X12_whose_22
    rw [c.n, if_pos (Int32.le_refl _)]) (by omega)
  exact this
theorem x_eachL {h : AH} {p : PD} {s : SD} (c : XC h p s) {x : Nat} (hx : x < p.n) : f_X3_actsEachWay (nI x) h = some (ms (eW p s x) p.n, h) := by
  have hn := c.1.n10
  unfold f_X3_actsEachWay
  rw [x_bits3 c, bd_some]
  have := lp0 (fun F j => l_X3_actsEachWay_9 F (nI x) (ACt p) (ms (eW p s x) j) (nI j) h) p.n (some (ms (eW p s x) p.n, h)) (by
    intro F j hj
    show b_X3_actsEachWay_9 (l_X3_actsEachWay_9 F) (nI x) (ACt p) _ (nI j) h = _
    unfold b_X3_actsEachWay_9
    rw [c.n, if_neg (nI_ge hj (by omega)), x_has _ (by omega), bd_some, if10, c.aw, x_standW c, bd_some, x_has _ (by omega), bd_some, if10, nI_1, bt_ACt c.1, decide_eq_true hj, Bool.true_and]
    by_cases e : (decide (p.ki j = 3) || decide (p.ki j = 5)) = true
    · rw [if_pos e]
      by_cases f : bt (SW p s ((1 : Int32) <<< (nI j &&& 31))) x = true
      · rw [if_pos f, ← ms_n (by unfold eW; rw [f]; simp), or0]
      · rw [if_neg f, ms_s (by unfold eW; rw [e, Bool.true_and]; simpa using f)]
    · rw [if_neg e, ← ms_n (by unfold eW; simp [e]), or0]) (by
    intro F
    show b_X3_actsEachWay_9 (l_X3_actsEachWay_9 F) (nI x) (ACt p) _ (nI p.n) h = _
    unfold b_X3_actsEachWay_9
    rw [c.n, if_pos (Int32.le_refl _)]) (by omega)
  rw [nI_0] at this
  show bd (l_X3_actsEachWay_9 FU (nI x) (ACt p) (ms (eW p s x) 0) 0 h) _ = _
  rw [this]
  rfl
