/-! ===== the evening goes on ===== -/
theorem RD.go {hx hm hx2 hm2 : AH} {p : PD} {s : SD} (d : RD hx hm p s) {j x : Nat} (hj : j ≤ s.ts) (h39 : j ≤ 39) (hxn : x < p.n) (f : FX3 hx hx2) (g : FM3 hm hm2)
    (a1 : hx2.1 8 3 2 = nI (j + 1)) (a2 : ∀ q, q ≠ 2 → hx2.1 8 3 q = hx.1 8 3 q) (a3 : hx2.1 9 = hx.1 9) (a4 : ∀ i, hx2.1 10 3 i = if i = j then nI x else hx.1 10 3 i)
    (b1 : hm2.1 34 0 27 = nI (j + 1)) (b2 : ∀ q, q ≠ 27 → hm2.1 34 0 q = hm.1 34 0 q) (b3 : hm2.1 44 = hm.1 44) (b4 : ∀ i, hm2.1 49 0 i = if i = j then nI x else hm.1 49 0 i) :
    RD hx2 hm2 p (s.aw, s.kn, s.lw, j + 1, s.su, fun i => if i = j then x else s.tr i) := by
  obtain ⟨v1, v2, v3, v4, v5, v6⟩ := d.2.1
  obtain ⟨x1, x2, x3, x4, x5, x6⟩ := d.2.2.2.2.1
  obtain ⟨m1, m2, m3, m4, m5, m6⟩ := d.2.2.2.2.2.1
  refine d.st f g ⟨v1, v2, v3, ?_, v5, fun i hi => ?_⟩ ⟨a1, ?_, ?_, ?_, fun i hi => ?_, fun i hi => ?_⟩ ⟨b1, ?_, ?_, ?_, fun i hi => ?_, fun i hi => ?_⟩
  · show j + 1 ≤ 40; omega
  · have hi' : i < j + 1 := hi
    show (if i = j then x else s.tr i) < p.n
    split
    · exact hxn
    · exact v6 i (by omega)
  · rw [a2 3 (by omega)]; exact x2
  · rw [a2 4 (by omega)]; exact x3
  · rw [a2 5 (by omega)]; exact x4
  · rw [a3]; exact x5 i hi
  · have hi' : i < j + 1 := hi
    show _ = nI (if i = j then x else s.tr i)
    rw [a4]
    split
    · rfl
    · exact x6 i (by omega)
  · rw [b2 16 (by omega)]; exact m2
  · rw [b2 17 (by omega)]; exact m3
  · rw [b2 18 (by omega)]; exact m4
  · rw [b3]; exact m5 i hi
  · have hi' : i < j + 1 := hi
    show _ = nI (if i = j then x else s.tr i)
    rw [b4]
    split
    · rfl
    · exact m6 i (by omega)
theorem x_overHere {h : AH} {p : PD} {s : SD} (c : XC h p s) (e : ¬ s.ts = 0) : f_X11_overHere h = some (if isO p s (s.tr (s.ts - 1)) = true then 1 else 0, h) := by
  unfold f_X11_overHere
  rw [x_place c e, bd_some, x_isOver c (c.2.1.trn (by omega)), bd_some, if10]
  split <;> rfl
theorem e_begin : E1 Rel f_X11_begin f_X12_begin := by
  intro a hx hm h
  show OR _ _
  obtain ⟨b, p, s, d⟩ := h
  have h : Rel hx hm := ⟨b, p, s, d⟩
  have hn := d.1.n10
  unfold f_X11_begin f_X12_begin
  simp only [x_isClaim d.x, m_isClaim d.m, bd_some, if10, d.x.aw, d.m.aw]
  by_cases hb : inb a p.n = true
  rotate_left
  · simp only [if_neg hb]; exact OR.same h rfl rfl
  obtain ⟨x, hxn, rfl⟩ := inb_ex hb
  simp only [if_pos hb, x_has _ (show x < 32 by omega), m_has _ (show x < 32 by omega), bd_some, if10]
  by_cases ha : bt s.aw x = true
  · simp only [if_pos ha]; exact OR.same h rfl rfl
  simp only [if_neg ha, f_X7_open, bd_some]
  have fx : FX3 hx (hsI (hsI hx 10 3 0 (nI x)) 8 3 2 1) := (FX3.rfl.sI (by omega)).sI (by omega)
  have fm : FM3 hm (hsI (hsI hm 34 0 27 1) 49 0 0 (nI x)) := (FM3.rfl.sI (by omega)).sI (by omega)
  have D := d.go (j := 0) (x := x) (by omega) (by omega) hxn fx fm (by rw [hsI_1, if_pos ⟨rfl, rfl, rfl⟩]; rfl) (fun q hq => by rw [hsI_1, if_neg (by omega), hsI_k (by decide)]) (by rw [hsI_k (by decide), hsI_k (by decide)]) (fun i => by rw [hsI_k (by decide), hsI_1]; simp) (by rw [hsI_k (by decide), hsI_1, if_pos ⟨rfl, rfl, rfl⟩]; rfl) (fun q hq => by rw [hsI_k (by decide), hsI_1, if_neg (by omega)]) (by rw [hsI_k (by decide), hsI_k (by decide)]) (fun i => by rw [hsI_1, hsI_k (by decide)]; simp)
  refine ⟨_, _, _, congrArg (fun z => bd z _) (x_overHere D.x (Nat.succ_ne_zero 0)), ?_, b.st fx fm, p, _, D⟩
  show bd (f_X12_isOver (nI x) (hsI (hsI hm 34 0 27 1) 49 0 0 (nI x))) _ = _
  rw [m_isOver D.m hxn, bd_some, if10, if_some]
  rfl
theorem e_answer : E2 Rel f_X11_answer f_X12_answer := by
  intro a0 a1 hx hm h
  show OR _ _
  obtain ⟨b, p, s, d⟩ := h
  have h : Rel hx hm := ⟨b, p, s, d⟩
  have hn := d.1.n10
  have hm14 := d.1.m14
  have h40 := d.2.1.t40
  unfold f_X11_answer f_X12_answer
  simp only [x_isClaim d.x, m_isClaim d.m, x_isReason d.x, m_isReason d.m, bd_some, if10, d.m.ts]
  by_cases hb : inb a0 p.m = true
  rotate_left
  · simp only [if_neg hb]; exact OR.same h rfl rfl
  by_cases hc : inb a1 p.n = true
  rotate_left
  · simp only [if_pos hb, if_neg hc]; exact OR.same h rfl rfl
  obtain ⟨k, hk, rfl⟩ := inb_ex hb
  obtain ⟨y, hy, rfl⟩ := inb_ex hc
  simp only [if_pos hb, if_pos hc, x_hasEv d.x, bd_some, if10, nI_eq0 (show s.ts < 100000 by omega)]
  by_cases e : s.ts = 0
  · simp only [e, not_true, if_true, if_false]; exact OR.same h rfl rfl
  have ht := d.2.1.trn (show s.ts - 1 < s.ts by omega)
  simp only [e, not_false_eq_true, if_true, if_false, x_place d.x e, x_barred d.x, x_canGo d.x (show s.tr (s.ts - 1) < 32 by omega) hk (show y < 32 by omega), m_canAnswerA d.m d.m.ta (show 0 < s.ts by omega) (by omega) hk (show y < 32 by omega), bd_some, if10, x_answers d.x, d.m.ts]
  by_cases g : cgo p s (s.tr (s.ts - 1)) k y (bq s.lw s.tr s.ts) = true
  rotate_left
  · simp only [if_neg g]; exact OR.same h rfl rfl
  have e39 : (nI (s.ts - 1) < 39) ↔ s.ts ≤ 39 := by
    rw [show (39 : Int32) = nI 39 from rfl, nI_ltI (by omega) (by omega)]; omega
  have f39 : (nI s.ts ≤ 39) ↔ s.ts ≤ 39 := by
    rw [show (39 : Int32) = nI 39 from rfl, nI_leI (by omega) (by omega)]
  simp only [if_pos g, e39, f39]
  by_cases q : s.ts ≤ 39
  rotate_left
  · simp only [if_neg q]; exact OR.same h rfl rfl
  have hg : f_X7_goTo 3 (nI y) hx = some ((), hsI (hsI hx 10 3 s.ts (nI y)) 8 3 2 (nI (s.ts + 1))) := by
    unfold f_X7_goTo
    rw [d.x.ts, if_neg (nI_ge (by omega) (by omega)), if_pos (inb_nI (by omega) (by omega)), nI_cl (by omega), hsI_k (by decide), d.x.ts, nI_1]
  simp only [if_pos q, hg, bd_some, if_pos (inb_nI (show s.ts < 41 by omega) (by omega)), nI_cl (show s.ts < 100000 by omega), hsI_k (show (34 : Nat) ≠ 49 by decide), d.m.ts, nI_1]
  have fx : FX3 hx (hsI (hsI hx 10 3 s.ts (nI y)) 8 3 2 (nI (s.ts + 1))) := (FX3.rfl.sI (by omega)).sI (by omega)
  have fm : FM3 hm (hsI (hsI hm 49 0 s.ts (nI y)) 34 0 27 (nI (s.ts + 1))) := (FM3.rfl.sI (by omega)).sI (by omega)
  have D := d.go (j := s.ts) (x := y) (by omega) (by omega) hy fx fm (by rw [hsI_1, if_pos ⟨rfl, rfl, rfl⟩]) (fun q hq => by rw [hsI_1, if_neg (by omega), hsI_k (by decide)]) (by rw [hsI_k (by decide), hsI_k (by decide)]) (fun i => by rw [hsI_k (by decide), hsI_1]; simp) (by rw [hsI_1, if_pos ⟨rfl, rfl, rfl⟩]) (fun q hq => by rw [hsI_1, if_neg (by omega), hsI_k (by decide)]) (by rw [hsI_k (by decide), hsI_k (by decide)]) (fun i => by rw [hsI_k (by decide), hsI_1]; simp)
  refine ⟨_, _, _, congrArg (fun z => bd z _) (x_overHere D.x (Nat.succ_ne_zero _)), ?_, b.st fx fm, p, _, D⟩
  rw [m_isOver D.m hy, bd_some, if10, if_some]
  show _ = some ((if isO p _ (if s.ts + 1 - 1 = s.ts then y else s.tr (s.ts + 1 - 1)) = true then 1 else 0), _)
  rw [if_pos (show s.ts + 1 - 1 = s.ts by omega)]
theorem nI_sub {a b : Nat} (h : b ≤ a) : nI a - nI b = nI (a - b) := by
  have : nI a = nI (a - b) + nI b := by rw [nI_add]; congr 1; omega
  rw [this, Int32.add_sub_cancel]
theorem e_undo : E1 Rel f_X11_undo f_X12_undo := by
  intro a hx hm h
  show OR _ _
  obtain ⟨b, p, s, d⟩ := h
  have h : Rel hx hm := ⟨b, p, s, d⟩
  have h40 := d.2.1.t40
  unfold f_X11_undo f_X12_undo
  have e0 : (0 : Int32).toInt = 0 := rfl
  simp only [x_answers d.x, m_answerMany d.m, bd_some, m_in, if10, i_lt0, i_le, e0, nI_toInt (show s.ts - 1 < 2 ^ 31 by omega)]
  by_cases q : 0 ≤ a.toInt ∧ a.toInt ≤ ((s.ts - 1 : Nat) : Int)
  rotate_left
  · simp only [if_neg q]
    by_cases z : a.toInt < 0
    · simp only [if_pos z]; exact OR.same h rfl rfl
    · simp only [if_neg z, if_neg (show ¬ a.toInt ≤ ((s.ts - 1 : Nat) : Int) by omega)]; exact OR.same h rfl rfl
  simp only [if_pos q, if_neg (show ¬ a.toInt < 0 by omega), if_pos q.2]
  obtain ⟨w, hw, rfl⟩ := ni_of (x := a) (N := s.ts - 1) q.1 q.2
  rw [nI_sub hw, d.m.ts, nI_sub (show s.ts - 1 - w ≤ s.ts by omega)]
  unfold f_X7_cutTo
  rw [d.x.ts]
  by_cases e : s.ts = 0
  · rw [if_pos ((nI_le0 (by omega)).mpr e), bd_some]
    have eq : hsI hm 34 0 27 (nI (s.ts - (s.ts - 1 - w))) = hm := by
      unfold hsI
      have : (fun a b c => if a = 34 ∧ b = 0 ∧ c = 27 then nI (s.ts - (s.ts - 1 - w)) else hm.1 a b c) = hm.1 := by
        funext a b c
        split
        · rename_i z
          obtain ⟨z1, z2, z3⟩ := z
          subst z1 z2 z3
          rw [d.m.ts, e]
          congr 1
          omega
        · rfl
      rw [this]
    rw [eq]
    exact OR.same h rfl rfl
  · rw [if_neg (fun z => e ((nI_le0 (by omega)).mp z)), bd_some, nI_1, show s.ts - (s.ts - 1 - w) = w + 1 by omega]
    have fx : FX3 hx (hsI hx 8 3 2 (nI (w + 1))) := FX3.rfl.sI (by omega)
    have fm : FM3 hm (hsI hm 34 0 27 (nI (w + 1))) := FM3.rfl.sI (by omega)
    obtain ⟨v1, v2, v3, v4, v5, v6⟩ := d.2.1
    obtain ⟨x1, x2, x3, x4, x5, x6⟩ := d.2.2.2.2.1
    obtain ⟨m1, m2, m3, m4, m5, m6⟩ := d.2.2.2.2.2.1
    refine ⟨_, _, _, rfl, rfl, b.st fx fm, p, (s.aw, s.kn, s.lw, w + 1, s.su, s.tr), d.st fx fm ⟨v1, v2, v3, ?_, v5, fun i hi => v6 i ?_⟩ ⟨?_, ?_, ?_, ?_, fun i hi => ?_, fun i hi => ?_⟩ ⟨?_, ?_, ?_, ?_, fun i hi => ?_, fun i hi => ?_⟩⟩
    · show w + 1 ≤ 40; omega
    · have : i < w + 1 := hi
      omega
    · rw [hsI_1, if_pos ⟨rfl, rfl, rfl⟩]; rfl
    · rw [hsI_1, if_neg (by omega)]; exact x2
    · rw [hsI_1, if_neg (by omega)]; exact x3
    · rw [hsI_1, if_neg (by omega)]; exact x4
    · rw [hsI_k (by decide)]; exact x5 i hi
    · have : i < w + 1 := hi
      rw [hsI_k (by decide)]; exact x6 i (by omega)
    · rw [hsI_1, if_pos ⟨rfl, rfl, rfl⟩]; rfl
    · rw [hsI_1, if_neg (by omega)]; exact m2
    · rw [hsI_1, if_neg (by omega)]; exact m3
    · rw [hsI_1, if_neg (by omega)]; exact m4
    · rw [hsI_k (by decide)]; exact m5 i hi
    · have : i < w + 1 := hi
      rw [hsI_k (by decide)]; exact m6 i (by omega)
/-! a trail laid into a row -/
theorem x_take {r n : Nat} (hn : n ≤ 40) (h : AH) : f_X5_take_trail r 3 (nI n) h = some ((), hfl (hfl (hsI h 2 r 1 (nI n)) 3 r 0 40 (fun _ => 0)) 3 r 0 n (fun i => h.1 10 3 i)) := by
  unfold f_X5_take_trail
  rw [x_renew, bd_some]
  have := lp0 (fun F j => l_X5_take_trail_5 F r 3 (nI n) (nI j) (hfl (hfl (hsI h 2 r 1 (nI n)) 3 r 0 40 (fun _ => 0)) 3 r 0 j (fun i => h.1 10 3 i))) n (some ((), hfl (hfl (hsI h 2 r 1 (nI n)) 3 r 0 40 (fun _ => 0)) 3 r 0 n (fun i => h.1 10 3 i))) (by
    intro F j hj
    show b_X5_take_trail_5 (l_X5_take_trail_5 F) r 3 (nI n) (nI j) _ = _
    unfold b_X5_take_trail_5
    have hb : inb (nI j) 40 = true := inb_nI (by omega) (by omega)
    rw [if_neg (nI_ge hj (by omega)), if_neg (show ¬ (40 : Int32) ≤ nI j from nI_ge (b := 40) (by omega) (by omega)), if_neg (nI_ge (by omega) (by omega)), if_pos hb, if_pos hb, nI_cl (by omega), nI_1, hfl_k (by decide), hfl_k (by decide), hsI_k (by decide)]
    exact congrArg _ (hfl_s0 _ 3 r j (fun i => h.1 10 3 i))) (by
    intro F
    show b_X5_take_trail_5 (l_X5_take_trail_5 F) r 3 (nI n) (nI n) _ = _
    unfold b_X5_take_trail_5
    rw [if_pos (Int32.le_refl _)]) (by omega)
  rw [hfl_0, nI_0] at this
  rw [this]
  rfl
theorem m_layA {r n : Nat} (hr : r < 6) (hn : n ≤ 40) (h : AH) : f_X12_layRow_m_askedOf (nI r) (nI n) h = some ((), hfl (hsI h 36 0 r (nI n)) 37 0 (40 * r) 40 (fun i => if i < n then h.1 49 0 i else 0)) := by
  unfold f_X12_layRow_m_askedOf
  rw [if_pos (inb_nI hr (by omega)), nI_cl (by omega)]
  have := lp0 (fun F j => l_X12_layRow_m_askedOf_7 F (nI r) (nI n) (nI j) (hfl (hsI h 36 0 r (nI n)) 37 0 (40 * r) j (fun i => if i < n then h.1 49 0 i else 0))) 40 (some ((), hfl (hsI h 36 0 r (nI n)) 37 0 (40 * r) 40 (fun i => if i < n then h.1 49 0 i else 0))) (by
    intro F j hj
    show b_X12_layRow_m_askedOf_7 (l_X12_layRow_m_askedOf_7 F) (nI r) (nI n) (nI j) _ = _
    unfold b_X12_layRow_m_askedOf_7
    rw [ix40, if_neg (show ¬ (40 : Int32) ≤ nI j from nI_ge (b := 40) hj (by omega)), if_pos (inb_nI (show 40 * r + j < 240 by omega) (by omega)), if_pos (inb_nI (show j < 41 by omega) (by omega)), nI_cl (show 40 * r + j < 100000 by omega), nI_cl (show j < 100000 by omega), nI_1, hfl_k (a := 49) (by decide), hsI_k (a := 49) (by decide), ← hfl_s]
    by_cases e : j < n
    · rw [if_neg (nI_ge e (by omega)), if_pos e, if_pos (inb_nI (show 40 * r + j < 240 by omega) (by omega))]
    · rw [if_pos (nI_le (by omega) (by omega)), if_neg e]) (by
    intro F
    show b_X12_layRow_m_askedOf_7 (l_X12_layRow_m_askedOf_7 F) (nI r) (nI n) (nI 40) _ = _
    unfold b_X12_layRow_m_askedOf_7
    rw [if_pos (show (40 : Int32) ≤ nI 40 from Int32.le_refl _)]) (by omega)
  rw [hfl_0, nI_0] at this
  rw [this]
  rfl
theorem Bk.lay {hx hm : AH} (h : Bk hx hm) {r n : Nat} (hr : r < 6) (hn : n ≤ 40) (f g : Nat → Int32) (e : ∀ i, i < n → f i = g i) :
    Bk (hfl (hfl (hsI hx 2 r 1 (nI n)) 3 r 0 40 (fun _ => 0)) 3 r 0 n f) (hfl (hsI hm 36 0 r (nI n)) 37 0 (40 * r) 40 (fun i => if i < n then g i else 0)) ∧ KX hx (hfl (hfl (hsI hx 2 r 1 (nI n)) 3 r 0 40 (fun _ => 0)) 3 r 0 n f) ∧ KM hm (hfl (hsI hm 36 0 r (nI n)) 37 0 (40 * r) 40 (fun i => if i < n then g i else 0)) := by
  refine ⟨⟨h.1.fr ?_ ?_ ?_ ?_ ?_ ?_, h.2.1.upd hr ?_ ?_ ?_ ?_ ?_ ?_ ?_, h.2.2.fr ?_ ?_ ?_ ?_⟩, ((KX.rfl.sI ?_ ?_).fl ?_ ?_).fl ?_ ?_, (KM.rfl.sI ?_ ?_ ?_).fl ?_ ?_ ?_⟩
  all_goals try omega
  · rw [hfl_k (by decide), hfl_k (by decide), hsI_k (by decide)]
  · rw [hfl_k (by decide), hfl_k (by decide), hsI_k (by decide)]
  · rfl
  · intro j hj
    rw [hfl_k (by decide), hsI_k (by decide)]
  · rw [hfl_k (by decide), hsI_k (by decide)]
  · rfl
  · intro q hq
    simp [hfl_1, hsI_1, hq]
  · intro q hq
    simp [hfl_1, hsI_1, hq]
  · intro q hq j
    simp [hfl_1, hsI_1, hq]
  · intro j hj
    rw [hfl_1, if_neg (by omega), hsI_k (by decide)]
  · simp [hfl_1, hsI_1]
  · right
    refine ⟨n, hn, ?_⟩
    simp [hfl_1, hsI_1]
  · intro j hj
    rw [hfl_1, hfl_1 (hsI hm 36 0 r (nI n)), if_pos (show 37 = 37 ∧ 0 = 0 ∧ 40 * r ≤ 40 * r + j ∧ 40 * r + j < 40 * r + 40 by omega)]
    rw [show 40 * r + j - 40 * r = j by omega]
    by_cases z : j < n
    · rw [if_pos (by omega), if_pos z, Nat.sub_zero, e j z]
    · rw [if_neg (by omega), if_neg z, hfl_1, if_pos (by omega)]
  · rw [hfl_k (by decide), hfl_k (by decide), hsI_k (by decide)]
  · rw [hfl_k (by decide), hfl_k (by decide), hsI_k (by decide)]
  · rw [hfl_k (by decide), hsI_k (by decide)]
  · rw [hfl_k (by decide), hsI_k (by decide)]
theorem e_asks : E1 Rel f_X11_asks f_X12_asks := by
  intro a hx hm h
  show OR _ _
  obtain ⟨b, p, s, d⟩ := h
  have h : Rel hx hm := ⟨b, p, s, d⟩
  have h40 := d.2.1.t40
  unfold f_X11_asks f_X12_asks
  simp only [x_isRow, m_isRow, bd_some, if10, x_hasEv d.x, d.m.ts, nI_eq0 (show s.ts < 100000 by omega)]
  by_cases hb : inb a 6 = true
  rotate_left
  · simp only [if_neg hb]; exact OR.same h rfl rfl
  obtain ⟨r, hr, rfl⟩ := inb_ex hb
  simp only [if_pos hb]
  by_cases e : s.ts = 0
  · simp only [e, not_true, if_true, if_false]; exact OR.same h rfl rfl
  have hl : f_X12_lesser (nI s.ts) 40 hm = some (nI s.ts, hm) := by
    unfold f_X12_lesser
    by_cases z : s.ts = 40
    · rw [z]; rfl
    · rw [if_neg (show ¬ (40 : Int32) ≤ nI s.ts from nI_ge (b := 40) (by omega) (by omega))]
  simp only [e, not_false_eq_true, if_true, if_false, nI_cl (show r < 100000 by omega), d.x.ts, x_take h40, hl, m_layA hr h40, bd_some]
  obtain ⟨B, X, M⟩ := b.lay hr h40 (fun i => hx.1 10 3 i) (fun i => hm.1 49 0 i) (fun i hi => by rw [d.x.tr hi, d.m.tr hi])
  have D := d.fr X M
  refine ⟨nI s.ts, _, _, ?_, ?_, B, p, s, D⟩
  · rw [D.x.ts]
  · rw [D.m.ts]
