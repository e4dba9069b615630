/-! ===== night ===== -/
def sd1 (sd : Nat) : Nat := sd * 48271 % 2147483647
theorem lot1 {sd : Nat} (h : sd < 2 ^ 31) : nL sd * (48271 : Int64) - nL sd * (48271 : Int64) / (2147483647 : Int64) * (2147483647 : Int64) = nL (sd1 sd) := by
  show nL sd * nL 48271 - nL sd * nL 48271 / nL 2147483647 * nL 2147483647 = _
  rw [nL_mul, nL_mod (by omega) (by omega) (by omega)]
  rfl
theorem sd1_lt (sd : Nat) : sd1 sd < 2 ^ 31 := by
  unfold sd1
  have := Nat.mod_lt (sd * 48271) (show 0 < 2147483647 by omega)
  omega
theorem sub_opR {p : PD} (v : PV p) (s : SD) (x : Nat) (b : Int32) : sub (opR p s x b) 14 := fun i hi => by
  have := sub_ms _ _ (by have := v.m14; omega) i hi
  have := v.m14
  omega
theorem cnt_ne {B : Int32} (hs : sub B 14) (h : ¬ B = 0) : 0 < cnt (bt B) 14 := by
  have := cnt0 (n := 14) (by omega) hs
  exact Nat.pos_of_ne_zero (fun z => h (this.mp z))
theorem night_L {hx hm : AH} {p : PD} {s : SD} (b : Bk hx hm) (d : RD hx hm p s) {A sd : Nat} (hA : A ≤ 20) (hsd : sd < 2 ^ 31) (ht : ¬ s.ts = 0) (hl : s.ts + A ≤ 40) : OR (l_X2_goOn_5 FU (nI A) (nL sd) 0 hx) (l_X12_night_30 FU (nI A) (nL sd) 0 hm) := by
  have hn := d.1.n10
  have hM := d.1.m14
  have := lpi (fun F (q : Int64 × Int32 × AH × AH) => (l_X2_goOn_5 F (nI A) q.1 q.2.1 q.2.2.1, l_X12_night_30 F (nI A) q.1 q.2.1 q.2.2.2)) A
    (fun j q => ∃ sd s, q.1 = nL sd ∧ sd < 2 ^ 31 ∧ q.2.1 = nI j ∧ Bk q.2.2.1 q.2.2.2 ∧ RD q.2.2.1 q.2.2.2 p s ∧ ¬ s.ts = 0 ∧ s.ts + (A - j) ≤ 40)
    (fun o => OR o.1 o.2) (by
    rintro F j ⟨x3, x5, gx, gm⟩ hj ⟨sd, s, q1, q2, q3, q4, q5, q6, q7⟩
    simp only at q1 q3 q4 q5
    subst q1 q3
    show OR (b_X2_goOn_5 (l_X2_goOn_5 F) (nI A) (nL sd) (nI j) gx) (b_X12_night_30 (l_X12_night_30 F) (nI A) (nL sd) (nI j) gm) ∨ ∃ t2 : Int64 × Int32 × AH × AH, _ ∧ (b_X2_goOn_5 (l_X2_goOn_5 F) (nI A) (nL sd) (nI j) gx, b_X12_night_30 (l_X12_night_30 F) (nI A) (nL sd) (nI j) gm) = (l_X2_goOn_5 F (nI A) t2.1 t2.2.1 t2.2.2.1, l_X12_night_30 F (nI A) t2.1 t2.2.1 t2.2.2.2)
    have htr := q5.2.1.trn (show s.ts - 1 < s.ts by omega)
    have h40 := q5.2.1.t40
    unfold b_X2_goOn_5 b_X12_night_30
    rw [if_neg (nI_ge hj (by omega)), if_neg (nI_ge hj (by omega)), x_barred q5.x, bd_some, x_place q5.x q6, bd_some, x_openR q5.x (by omega), bd_some, q5.m.ts, m_mayAnswerA q5.m q5.m.ta (by omega) (by omega), bd_some, q5.m.ts, m_mayAnswerA q5.m q5.m.ta (by omega) (by omega), bd_some, Int64.mul_comm 48271, lot1 q2]
    by_cases e : opR p s (s.tr (s.ts - 1)) (bq s.lw s.tr s.ts) = 0
    · left
      rw [if_pos e, if_pos e]
      exact OR.same ⟨q4, p, s, q5⟩ rfl rfl
    · right
      have so := sub_opR q5.1 s (s.tr (s.ts - 1)) (bq s.lw s.tr s.ts)
      have c0 := cnt_ne so e
      have c14 := cnt_le (bt (opR p s (s.tr (s.ts - 1)) (bq s.lw s.tr s.ts))) 14
      obtain ⟨k, k1, k2, k3⟩ := nth_ex (bt (opR p s (s.tr (s.ts - 1)) (bq s.lw s.tr s.ts))) 14 (sd1 sd % cnt (bt (opR p s (s.tr (s.ts - 1)) (bq s.lw s.tr s.ts))) 14) (Nat.mod_lt _ c0)
      have k4 := k2
      rw [bt_opR q5.1, Bool.and_eq_true, Bool.and_eq_true, Bool.and_eq_true, decide_eq_true_eq, Bool.not_eq_true', decide_eq_false_iff_not] at k4
      obtain ⟨hk, -, -, ne⟩ := k4
      have s1 := sd1_lt sd
      have sa : sub (p.pa k &&& (bq s.lw s.tr s.ts ^^^ (-1))) 14 := sub_up (sub_and (q5.1.pan hk)) (by omega)
      have d0 := cnt_ne sa ne
      have d14 := cnt_le (bt (p.pa k &&& (bq s.lw s.tr s.ts ^^^ (-1)))) 14
      have s64 : sd1 sd / 64 < 2 ^ 62 := by
        have := Nat.div_le_self (sd1 sd) 64
        omega
      obtain ⟨y, y1, y2, y3⟩ := nth_ex (bt (p.pa k &&& (bq s.lw s.tr s.ts ^^^ (-1)))) 14 (sd1 sd / 64 % cnt (bt (p.pa k &&& (bq s.lw s.tr s.ts ^^^ (-1)))) 14) (Nat.mod_lt _ d0)
      have ckk := cnt_le (bt (opR p s (s.tr (s.ts - 1)) (bq s.lw s.tr s.ts))) k
      have cyy := cnt_le (bt (p.pa k &&& (bq s.lw s.tr s.ts ^^^ (-1)))) y
      have hy : y < p.n := by
        have := y2
        rw [bt_and, Bool.and_eq_true] at this
        exact q5.1.pan hk y this.1
      have l64 : nL (sd1 sd) / (64 : Int64) = nL (sd1 sd / 64) := nL_div (b := 64) (by omega) (by omega) (by omega)
      have hg : f_X7_goTo 3 (nI y) gx = some ((), hsI (hsI gx 10 3 s.ts (nI y)) 8 3 2 (nI (s.ts + 1))) := by
        unfold f_X7_goTo
        rw [q5.x.ts, if_neg (nI_ge (by omega) (by omega)), if_pos (inb_nI (by omega) (by omega)), nI_cl (by omega), hsI_k (by decide), q5.x.ts, nI_1]
      have eX : (if opR p s (s.tr (s.ts - 1)) (bq s.lw s.tr s.ts) = 0 then some (nI j, gx) else bd (f_X2_drawn (opR p s (s.tr (s.ts - 1)) (bq s.lw s.tr s.ts)) (nL (sd1 sd)) gx) (fun y7 h8 => (if inb y7 14 = true then bd (f_X2_drawn ((h8.1 16 0 y7.toNatClampNeg) &&& (bq s.lw s.tr s.ts ^^^ (-1 : Int32))) (nL (sd1 sd) / (64 : Int64)) h8) (fun y9 h10 => bd (f_X7_goTo 3 y9 h10) (fun _ h12 => l_X2_goOn_5 F (nI A) (nL (sd1 sd)) (nI j + 1) h12)) else none))) = l_X2_goOn_5 F (nI A) (nL (sd1 sd)) (nI (j + 1)) (hsI (hsI gx 10 3 s.ts (nI y)) 8 3 2 (nI (s.ts + 1))) := by
        rw [if_neg e, x_drawn so (by omega) k1 c0 k2 k3, bd_some, if_pos (inb_nI (by omega) (by omega)), nI_cl (by omega), q5.x.pa hk, l64, x_drawn sa s64 y1 d0 y2 y3, bd_some, hg, bd_some, nI_1]
      rw [eX, if_neg e, m_bits (n := 14) (by omega) so, bd_some, bc_eq (n := 14) (by omega) so, nI_nL (by omega), if_neg (fun z => by have := (nL_eq (b := 0) (by omega) (by omega)).mp z; omega), nL_mod (by omega) (by omega) c0, ← k3, nL_nI (by omega), m_pick k1 k2, bd_some, q5.m.ts, m_mayAskA q5.m q5.m.ta (by omega) hk, bd_some, m_bits (n := 14) (by omega) sa, bd_some, bc_eq (n := 14) (by omega) sa, nI_nL (by omega), if_neg (fun z => by have := (nL_eq (b := 0) (by omega) (by omega)).mp z; omega), l64, nL_mod (by omega) (by omega) d0, ← y3, nL_nI (by omega), m_pick y1 y2, bd_some, q5.m.ts, if_pos (inb_nI (by omega) (by omega)), nI_cl (by omega), hsI_k (show (34 : Nat) ≠ 49 by decide), q5.m.ts, nI_1, nI_1]
      have fx : FX3 gx (hsI (hsI gx 10 3 s.ts (nI y)) 8 3 2 (nI (s.ts + 1))) := (FX3.rfl.sI (by omega)).sI (by omega)
      have fm : FM3 gm (hsI (hsI gm 49 0 s.ts (nI y)) 34 0 27 (nI (s.ts + 1))) := (FM3.rfl.sI (by omega)).sI (by omega)
      have D := q5.go (j := s.ts) (x := y) (by omega) (by omega) hy fx fm (by rw [hsI_1, if_pos ⟨rfl, rfl, rfl⟩]) (fun q hq => by rw [hsI_1, if_neg (by omega), hsI_k (by decide)]) (by rw [hsI_k (by decide), hsI_k (by decide)]) (fun i => by rw [hsI_k (by decide), hsI_1]; simp) (by rw [hsI_1, if_pos ⟨rfl, rfl, rfl⟩]) (fun q hq => by rw [hsI_1, if_neg (by omega), hsI_k (by decide)]) (by rw [hsI_k (by decide), hsI_k (by decide)]) (fun i => by rw [hsI_k (by decide), hsI_1]; simp)
      refine ⟨(nL (sd1 sd), nI (j + 1), hsI (hsI gx 10 3 s.ts (nI y)) 8 3 2 (nI (s.ts + 1)), hsI (hsI gm 49 0 s.ts (nI y)) 34 0 27 (nI (s.ts + 1))), ⟨sd1 sd, _, rfl, s1, rfl, q4.st fx fm, D, Nat.succ_ne_zero _, ?_⟩, rfl⟩
      show s.ts + 1 + (A - (j + 1)) ≤ 40
      omega) (by
    rintro F ⟨x3, x5, gx, gm⟩ ⟨sd, s, q1, q2, q3, q4, q5, q6, q7⟩
    simp only at q1 q3 q4 q5
    subst q1 q3
    show OR (b_X2_goOn_5 (l_X2_goOn_5 F) (nI A) (nL sd) (nI A) gx) (b_X12_night_30 (l_X12_night_30 F) (nI A) (nL sd) (nI A) gm)
    unfold b_X2_goOn_5 b_X12_night_30
    rw [if_pos (Int32.le_refl _), if_pos (Int32.le_refl _)]
    exact OR.same ⟨q4, p, s, q5⟩ rfl rfl) (by omega) (nL sd, 0, hx, hm) ⟨sd, s, rfl, hsd, rfl, b, d, ht, hl⟩
  exact this
theorem e_night : E2 Rel f_X11_night f_X12_night := by
  intro a1 a2 hx hm h
  show OR _ _
  obtain ⟨b, p, s, d⟩ := h
  have h : Rel hx hm := ⟨b, p, s, d⟩
  have h40 := d.2.1.t40
  have i1 : (1 : Int32).toInt = 1 := rfl
  have i20 : (20 : Int32).toInt = 20 := rfl
  have iM : (2147483646 : Int32).toInt = 2147483646 := rfl
  have iN : (2147483647 : Int32).toInt = 2147483647 := rfl
  unfold f_X11_night f_X12_night
  rw [m_in, bd_some, if10, i1, i20]
  by_cases c1 : 1 ≤ a1.toInt ∧ a1.toInt ≤ 20
  rotate_left
  · rw [if_neg c1]
    by_cases c2 : a1 < 1
    · rw [if_pos c2]; exact OR.same h rfl rfl
    · rw [if_neg c2, if_pos]
      · exact OR.same h rfl rfl
      · rw [i_lt, i1] at c2
        rw [i_lt, i20]; omega
  rw [if_pos c1, if_neg (by rw [i_lt, i1]; omega), if_neg (by rw [i_lt, i20]; omega), m_in, bd_some, if10, i1, iM]
  by_cases c2 : 1 ≤ a2.toInt ∧ a2.toInt ≤ 2147483646
  rotate_left
  · rw [if_neg c2]
    by_cases c3 : a2 < 1
    · rw [if_pos c3]; exact OR.same h rfl rfl
    · rw [if_neg c3, if_neg]
      · exact OR.same h rfl rfl
      · rw [i_lt, i1] at c3
        rw [i_lt, iN]; omega
  rw [if_pos c2, if_neg (by rw [i_lt, i1]; omega), if_pos (by rw [i_lt, iN]; omega), x_hasEv d.x, bd_some, if10, d.m.ts]
  by_cases e : s.ts = 0
  · rw [if_neg (fun z => z e), if_pos ((nI_eq0 (by omega)).mpr e)]; exact OR.same h rfl rfl
  obtain ⟨A, hA, rfl⟩ := inb_ex (x := a1) (n := 21) (inb_iff.mpr (by omega))
  have ea2 : a2 = nI a2.toInt.toNat := by
    apply Int32.toInt_inj.mp
    rw [nI_toInt (by omega)]; omega
  have hsd : a2.toInt.toNat < 2 ^ 31 := by omega
  generalize a2.toInt.toNat = sd at ea2 hsd
  subst ea2
  rw [if_pos e, if_neg (fun z => e ((nI_eq0 (by omega)).mp z)), x_answers d.x, bd_some, m_answerMany d.m, bd_some, nI_add]
  by_cases c3 : s.ts - 1 + A ≤ 39
  rotate_left
  · have c4 : ¬ nI (s.ts - 1 + A) ≤ (39 : Int32) := fun z => c3 ((nI_leI (b := 39) (by omega) (by omega)).mp z)
    rw [if_neg c4, if_neg c4]; exact OR.same h rfl rfl
  have c4 : nI (s.ts - 1 + A) ≤ (39 : Int32) := (nI_leI (b := 39) (by omega) (by omega)).mpr c3
  rw [if_pos c4, if_pos c4]
  unfold f_X2_goOn
  rw [nI_nL hsd]
  obtain ⟨r, hx2, hm2, z1, z2, z3⟩ := night_L b d (A := A) (sd := sd) (by omega) hsd e (by omega)
  rw [z1, z2]
  exact ⟨r, hx2, hm2, rfl, rfl, z3⟩
