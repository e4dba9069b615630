/-! ===== both unions are the same ===== -/
theorem okS_in {p : PD} (v : PV p) {s : SD} {x : Nat} (hx : x < p.n) {C D : Int32} (h : ∀ i, bt (RC p s x) i = true → bt (SN p s) i = true → bt C i = true → bt D i = true) (hC : okS p s x C = true) : okS p s x D = true := by
  have hn := v.n10
  refine SW_rel v hx (fun i r1 r2 r3 => ?_) hC
  rw [bt_not'] at r3 ⊢
  refine ⟨r3.1, ?_⟩
  cases e : bt C i
  · rfl
  · rw [h i r1 r2 e] at r3; exact absurd r3.2 (by decide)
theorem okS_x {p : PD} (v : PV p) {s : SD} {x : Nat} (hx : x < p.n) {C : Int32} (h : okS p s x C = true) : bt C x = true := by
  have hn := v.n10
  unfold okS SW at h
  rw [bt_ST v] at h
  have := h.ng
  rw [Bool.or_eq_false_iff, bt_not _ (by omega)] at this
  simpa using this.2
theorem un_eq {p : PD} (v : PV p) {s : SD} {x w : Nat} (hx : x < p.n) (hs : bt (SN p s) x = true) (hw : w < 1024) (bW : ∀ i, i < 32 → (bt (nI w) i = true ↔ bt (RC p s x) i = true ∧ bt (SN p s) i = true ∧ ¬ i = x)) : un (leanX p s x w) ((1 : Int32) <<< (nI x &&& 31)) (w + 1) = un (fun t => leanM p s x (nI t)) 0 (2 ^ p.n) := by
  have hn := v.n10
  have h10 : 2 ^ p.n ≤ 2 ^ 10 := Nat.pow_le_pow_right (by omega) hn
  have rx : bt (RC p s x) x = true := (bt_RC v hx x).mpr (Rch.cl p s x).1
  have b32 : ∀ {C : Int32} {i : Nat}, bt C i = true → i < 32 := fun {C i} h => by
    apply Classical.byContradiction
    intro z
    rw [bt_ge (by omega)] at h
    contradiction
  -- from the class to the reference
  have fwd : ∀ t, t &&& w = t → okX p s x t = true → spX p s x t = false → ∃ z, z < 2 ^ p.n ∧ leanM p s x (nI z) = true ∧ nI z = nI t ||| ((1 : Int32) <<< (nI x &&& 31)) := by
    intro t ti ok sp
    have tw := and_le t w ti
    have hsub : sub (nI t ||| ((1 : Int32) <<< (nI x &&& 31))) p.n := fun i hi => by
      rw [bt_or, Bool.or_eq_true] at hi
      rcases hi with z | z
      · have := (bW i (b32 z)).mp ((ins_iff (by omega)).mp ti i z)
        exact ((bt_RC v hx i).mp this.1).lt v hx
      · rw [bt_one (by omega)] at z; omega
    obtain ⟨z, hz, e⟩ := sub_10 hn hsub
    refine ⟨z, ?_, ?_, e.symm⟩
    · apply Nat.lt_pow_two_of_testBit
      intro i hi
      cases f : z.testBit i
      · rfl
      · by_cases i32 : i < 32
        · have := hsub i (by rw [e, bt_nI _ _ i32]; exact f)
          omega
        · have h1 := Nat.ge_two_pow_of_testBit f
          have h2 : 2 ^ 10 ≤ 2 ^ i := Nat.pow_le_pow_right (by omega) (by omega)
          omega
    · rw [← e]
      unfold leanM
      rw [Bool.and_eq_true, Bool.not_eq_true', anyN_f]
      refine ⟨ok, fun y hy => ?_⟩
      cases f : (bt (nI t ||| ((1 : Int32) <<< (nI x &&& 31))) y && okS p s x (rmI (nI t ||| ((1 : Int32) <<< (nI x &&& 31))) y))
      · rfl
      · rw [Bool.and_eq_true] at f
        have f2 := okS_x v hx f.2
        rw [bt_rmI (by omega)] at f2
        unfold spX at sp
        rw [anyN_f] at sp
        have hy' := sp y hy
        have f1 : bt (nI t) y = true := by
          have := f.1
          rw [bt_or, Bool.or_eq_true, bt_one (by omega)] at this
          rcases this with q | q
          · exact q
          · exact absurd q.symm f2.2
        have : okS p s x (rmI (nI t) y ||| ((1 : Int32) <<< (nI x &&& 31))) = true := okS_mono v (fun i hi => by
          rw [bt_rmI (by omega), bt_or, Bool.or_eq_true] at hi
          rw [bt_or, Bool.or_eq_true, bt_rmI (by omega)]
          rcases hi.1 with q | q
          · exact Or.inl ⟨q, hi.2⟩
          · exact Or.inr q) f.2
        rw [f1, this] at hy'
        contradiction
  -- from the reference to the class
  have bwd : ∀ z, z < 2 ^ p.n → leanM p s x (nI z) = true → ∃ t, t &&& w = t ∧ leanX p s x w t = true ∧ nI z = nI t ||| ((1 : Int32) <<< (nI x &&& 31)) := by
    intro z hz hl
    unfold leanM at hl
    rw [Bool.and_eq_true, Bool.not_eq_true', anyN_f] at hl
    obtain ⟨ok, ln⟩ := hl
    have xz := okS_x v hx ok
    have inW : ∀ y, bt (nI z) y = true → bt (RC p s x) y = true ∧ bt (SN p s) y = true := by
      intro y hy
      have hyn := sub_lt hz y hy
      apply Classical.byContradiction
      intro q
      have : okS p s x (rmI (nI z) y) = true := okS_in v hx (fun i r1 r2 r3 => by
        rw [bt_rmI (by omega)]
        exact ⟨r3, fun e => q ⟨by rw [← e]; exact r1, by rw [← e]; exact r2⟩⟩) ok
      have h2 := ln y hyn
      rw [hy, this] at h2
      contradiction
    obtain ⟨t, t1, t2, t3, -⟩ := rmv (show z < 1024 by omega) (show x < 32 by omega)
    have ez : nI z = nI t ||| ((1 : Int32) <<< (nI x &&& 31)) := by
      rw [← t1]
      apply inc.eq
      · intro i hi
        rw [bt_or, Bool.or_eq_true, bt_rmI (by omega), bt_one (by omega)]
        by_cases e : i = x
        · exact Or.inr e
        · exact Or.inl ⟨hi, e⟩
      · intro i hi
        rw [bt_or, Bool.or_eq_true, bt_rmI (by omega), bt_one (by omega)] at hi
        rcases hi with q | q
        · exact q.1
        · rw [q]; exact xz
    have ti : t &&& w = t := by
      rw [ins_iff (by omega)]
      intro i hi
      rw [← t1, bt_rmI (by omega)] at hi
      have := inW i hi.1
      exact (bW i (b32 hi.1)).mpr ⟨this.1, this.2, hi.2⟩
    refine ⟨t, ti, ?_, ez⟩
    unfold leanX
    rw [decide_eq_true ti, Bool.true_and, Bool.and_eq_true, Bool.not_eq_true']
    refine ⟨by unfold okX; rw [← ez]; exact ok, ?_⟩
    unfold spX
    rw [anyN_f]
    intro y hy
    cases f : (bt (nI t) y && okS p s x (rmI (nI t) y ||| ((1 : Int32) <<< (nI x &&& 31))))
    · rfl
    · rw [Bool.and_eq_true] at f
      have f1 := f.1
      rw [← t1, bt_rmI (by omega)] at f1
      have : okS p s x (rmI (nI z) y) = true := okS_mono v (fun i hi => by
        rw [bt_rmI (by omega), ez, bt_or, Bool.or_eq_true]
        rw [bt_or, Bool.or_eq_true, bt_rmI (by omega)] at hi
        rcases hi with q | q
        · exact ⟨Or.inl q.1, q.2⟩
        · refine ⟨Or.inr q, fun e => ?_⟩
          rw [bt_one (by omega)] at q
          exact f1.2 (by omega)) f.2
      have h2 := ln y hy
      rw [f1.1, this] at h2
      contradiction
  -- there is one
  have one : ∃ t, t ≤ w ∧ t &&& w = t ∧ okX p s x t = true ∧ spX p s x t = false := by
    have okw : okX p s x w = true := by
      have h0 : okS p s x (-1) = true := by
        unfold okS
        have : (-1 : Int32) ^^^ (-1) = 0 := by decide
        rw [this, SW_0 v]; exact hs
      refine okS_in v hx (fun i r1 r2 _ => ?_) h0
      have hi := ((bt_RC v hx i).mp r1).lt v hx
      rw [bt_or, Bool.or_eq_true, bt_one (by omega)]
      by_cases e : i = x
      · exact Or.inr e
      · exact Or.inl ((bW i (by omega)).mpr ⟨r1, r2, e⟩)
    have key : ∀ N t, t ≤ N → t ≤ w → t &&& w = t → okX p s x t = true → ∃ t, t ≤ w ∧ t &&& w = t ∧ okX p s x t = true ∧ spX p s x t = false := by
      intro N
      induction N with
      | zero =>
        intro t h1 h2 h3 h4
        refine ⟨t, h2, h3, h4, ?_⟩
        have : t = 0 := by omega
        unfold spX
        rw [anyN_f]
        intro y _
        rw [this, nI_0, bt_0]; rfl
      | succ N ih =>
        intro t h1 h2 h3 h4
        cases e : spX p s x t
        · exact ⟨t, h2, h3, h4, e⟩
        · unfold spX at e
          rw [anyN_iff] at e
          obtain ⟨y, hy, f⟩ := e
          rw [Bool.and_eq_true] at f
          obtain ⟨r, r1, r2, r3, r4⟩ := rmv (show t < 1024 by omega) (show y < 32 by omega)
          have r5 := r4 f.1
          refine ih r (by omega) (by omega) (by rw [← r3, Nat.and_assoc, h3]) ?_
          unfold okX
          rw [← r1]; exact f.2
    exact key w w (Nat.le_refl _) (Nat.le_refl _) (Nat.and_self _) okw
  apply inc.eq
  · intro i hi
    rw [bt_un] at hi ⊢
    right
    rcases hi with q | ⟨t, h1, h2, h3⟩
    · obtain ⟨t, -, t2, t3, t4⟩ := one
      obtain ⟨z, z1, z2, z3⟩ := fwd t t2 t3 t4
      refine ⟨z, z1, z2, ?_⟩
      rw [z3, bt_or, q, Bool.or_true]
    · unfold leanX at h2
      rw [Bool.and_eq_true, decide_eq_true_eq, Bool.and_eq_true, Bool.not_eq_true'] at h2
      obtain ⟨z, z1, z2, z3⟩ := fwd t h2.1 h2.2.1 h2.2.2
      refine ⟨z, z1, z2, ?_⟩
      rw [z3, bt_or, h3, Bool.true_or]
  · intro i hi
    rw [bt_un] at hi ⊢
    rcases hi with q | ⟨z, h1, h2, h3⟩
    · rw [bt_0] at q; contradiction
    · obtain ⟨t, t1, t2, t3⟩ := bwd z h1 h2
      rw [t3, bt_or, Bool.or_eq_true] at h3
      rcases h3 with q | q
      · exact Or.inr ⟨t, by have := and_le t w t1; omega, t2, q⟩
      · exact Or.inl q
theorem e_whose : E1 Rel f_X11_whose f_X12_whose := by
  intro a hx hm h
  show OR _ _
  obtain ⟨b, p, s, d⟩ := h
  have h : Rel hx hm := ⟨b, p, s, d⟩
  have hn := d.1.n10
  unfold f_X11_whose f_X12_whose
  rw [x_isClaim d.x, m_isClaim d.m, bd_some, bd_some, if10, if10]
  by_cases hb : inb a p.n = true
  rotate_left
  · rw [if_neg hb, if_neg hb]; exact OR.same h rfl rfl
  obtain ⟨x, hxn, rfl⟩ := inb_ex hb
  rw [if_pos hb, if_pos hb, x_standing d.x, m_standNow d.m, bd_some, bd_some, x_has _ (by omega), m_has _ (by omega), bd_some, bd_some, if10, if10]
  by_cases hs : bt (SN p s) x = true
  rotate_left
  · rw [if_neg hs, if_neg hs, m_tells, bd_some]; exact OR.told h _ rfl rfl
  rw [if_pos hs, if_pos hs]
  unfold f_X3_actsSomeWay
  have s0 : SX hx (hfl hx 27 0 0 32 (fun _ => 0)) := SX.rfl.fl (by omega)
  have c0 := d.x.fr s0.k
  rw [x_fillE, bd_some, x_reach c0 hxn, bd_some, x_standing c0, bd_some]
  have hW : sub ((RC p s x &&& SN p s) &&& (((1 : Int32) <<< (nI x &&& 31)) ^^^ (-1))) p.n := sub_and (sub_and (fun i hi => ((bt_RC d.1 hxn i).mp hi).lt d.1 hxn))
  obtain ⟨w, hw, eW⟩ := sub_10 hn hW
  have bW : ∀ i, i < 32 → (bt (nI w) i = true ↔ bt (RC p s x) i = true ∧ bt (SN p s) i = true ∧ ¬ i = x) := fun i hi => by
    rw [← eW, bt_and, bt_and, Bool.and_eq_true, Bool.and_eq_true, bt_not _ hi, bt_sl _ (by omega) _ hi]
    simp [and_assoc]
  have naw : ∀ i, bt (SN p s) i = true → bt s.aw i = false := fun i hi => by
    rw [SN, bt_ST d.1] at hi
    exact hi.ng
  have hC : ∀ i, bt (nI w ||| ((1 : Int32) <<< (nI x &&& 31))) i = true → bt s.aw i = false := fun i hi => by
    rw [bt_or, Bool.or_eq_true, bt_one (by omega)] at hi
    rcases hi with q | q
    · have i32 : i < 32 := by
        apply Classical.byContradiction
        intro z
        rw [bt_ge (by omega)] at q
        contradiction
      exact naw i ((bW i i32).mp q).2.1
    · rw [q]; exact naw x hs
  have ea : EA (hfl hx 27 0 0 32 (fun _ => 0)) p s x w 0 := fun t ht => by
    rw [hfl_1, if_pos (by omega), bt_0]
    simp
  obtain ⟨hx2, a1, a2⟩ := x_someL c0 hxn hw hC ea
  rw [eW, a1, bd_some]
  have c2 := (d.x.fr (s0.tr a2).k).fr (KX.told (hx := hx2) (un (leanX p s x w) ((1 : Int32) <<< (nI x &&& 31)) (w + 1) &&& ACt p))
  rw [x_eachL c2 hxn, bd_some, m_eachL d.m hxn, bd_some]
  unfold c_X12_whose_48
  rw [m_someL d.m hxn, bd_some]
  unfold c_X12_whose_67
  rw [m_actSet d.m, bd_some, m_tells, bd_some, un_eq d.1 hxn hs hw bW]
  exact OR.told (h.sc (s0.tr a2) SM.rfl) _ rfl rfl
