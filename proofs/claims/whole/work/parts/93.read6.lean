theorem x_blanks {gx gm : AH} {r N a : Nat} {tx : Nat → Int32} (hN : N ≤ 80) (ha : a ≤ N) (e11 : gx.1 11 0 1 = nI a) (t : TX gx gm r N tx) : ∃ b, a ≤ b ∧ b ≤ N ∧ (∀ j, a ≤ j → j < b → tx j = 32) ∧ (b < N → ¬ tx b = 32) ∧ f_X4_passBlanks r gx = some ((), hsI gx 11 0 1 (nI b)) := by
  unfold f_X4_passBlanks
  have := lpi (fun F (q : Int32 × AH) => l_X4_passBlanks_2 F r q.1 q.2) (N - a)
    (fun i q => q.1 = nI i ∧ q.2 = hsI gx 11 0 1 (nI (a + i)) ∧ ∀ j, a ≤ j → j < a + i → tx j = 32)
    (fun o => ∃ b, a ≤ b ∧ b ≤ N ∧ (∀ j, a ≤ j → j < b → tx j = 32) ∧ (b < N → ¬ tx b = 32) ∧ o = some ((), hsI gx 11 0 1 (nI b))) (by
    rintro F i ⟨x2, g⟩ hi ⟨q1, q2, q3⟩
    simp only at q1 q2
    subst q1 q2
    have tg : TX (hsI gx 11 0 1 (nI (a + i))) gm r N tx := t.fr (RX.rfl.sI (by omega)) SM.rfl
    have e : (hsI gx 11 0 1 (nI (a + i))).1 11 0 1 = nI (a + i) := by rw [hsI_1, if_pos ⟨rfl, rfl, rfl⟩]
    show (∃ b, _ ∧ _ ∧ _ ∧ _ ∧ b_X4_passBlanks_2 (l_X4_passBlanks_2 F) r (nI i) (hsI gx 11 0 1 (nI (a + i))) = _) ∨ ∃ t2 : Int32 × AH, _ ∧ b_X4_passBlanks_2 (l_X4_passBlanks_2 F) r (nI i) (hsI gx 11 0 1 (nI (a + i))) = l_X4_passBlanks_2 F r t2.1 t2.2
    unfold b_X4_passBlanks_2
    rw [if_neg (show ¬ (80 : Int32) ≤ nI i from nI_ge (b := 80) (by omega) (by omega)), e, x_sign tg hN (by omega), bd_some, if_pos (show a + i < N by omega), e, nI_1, nI_1, hsI_hsI]
    by_cases z : tx (a + i) = 32
    · right
      rw [if_pos z]
      refine ⟨(nI (i + 1), hsI gx 11 0 1 (nI (a + i + 1))), ⟨rfl, rfl, fun j h1 h2 => ?_⟩, rfl⟩
      by_cases w : j = a + i
      · rw [w]; exact z
      · exact q3 j h1 (by omega)
    · left
      rw [if_neg z]
      exact ⟨a + i, by omega, by omega, q3, fun _ => z, rfl⟩) (by
    rintro F ⟨x2, g⟩ ⟨q1, q2, q3⟩
    simp only at q1 q2
    subst q1 q2
    have tg : TX (hsI gx 11 0 1 (nI (a + (N - a)))) gm r N tx := t.fr (RX.rfl.sI (by omega)) SM.rfl
    have e : (hsI gx 11 0 1 (nI (a + (N - a)))).1 11 0 1 = nI (a + (N - a)) := by rw [hsI_1, if_pos ⟨rfl, rfl, rfl⟩]
    show ∃ b, _ ∧ _ ∧ _ ∧ _ ∧ b_X4_passBlanks_2 (l_X4_passBlanks_2 F) r (nI (N - a)) (hsI gx 11 0 1 (nI (a + (N - a)))) = _
    refine ⟨a + (N - a), by omega, by omega, q3, fun z => by omega, ?_⟩
    unfold b_X4_passBlanks_2
    rw [e, x_sign tg hN (by omega), bd_some, if_neg (show ¬ a + (N - a) < N by omega), if_neg (show ¬ (-9 : Int32) = 32 by decide)]
    split <;> rfl) (by omega) (0, gx) ⟨rfl, by
      show gx = hsI gx 11 0 1 (nI (a + 0))
      rw [Nat.add_zero, ← e11, hsI_self], fun j h1 h2 => by omega⟩
  obtain ⟨b, b1, b2, b3, b4, b5⟩ := this
  have b5' : l_X4_passBlanks_2 FU r 0 gx = some ((), hsI gx 11 0 1 (nI b)) := b5
  refine ⟨b, b1, b2, b3, b4, ?_⟩
  rw [b5']
  rfl
theorem m_blanks {hx : AH} {r N : Nat} {tx : Nat → Int32} (hr : r < 4) (hN : N ≤ 80) : ∀ d F a gm, a + d ≤ N → (∀ j, a ≤ j → j < a + d → tx j = 32) → gm.1 34 0 19 = nI a → TX hx gm r N tx → l_X12_faultOf_9 (F + d) (nI r) gm = l_X12_faultOf_9 F (nI r) (hsI gm 34 0 19 (nI (a + d)))
  | 0, F, a, gm, _, _, e, _ => by
    rw [Nat.add_zero, Nat.add_zero, ← e, hsI_self]
  | d + 1, F, a, gm, h, hb, e, t => by
    show b_X12_faultOf_9 (l_X12_faultOf_9 (F + d)) (nI r) gm = _
    unfold b_X12_faultOf_9
    rw [if_pos (inb_nI hr (by omega)), nI_cl (by omega), t.2.1, e, if_neg (nI_ge (show a < N by omega) (by omega)), m_byte t hr hN (by omega), bd_some, if_pos (show a < N by omega), hb a (Nat.le_refl _) (by omega), if_pos rfl, e, nI_1]
    have t2 : TX hx (hsI gm 34 0 19 (nI (a + 1))) r N tx := t.fr RX.rfl (SM.rfl.sI (by omega))
    rw [m_blanks hr hN d F (a + 1) _ (by omega) (fun j h1 h2 => hb j (by omega) (by omega)) (by rw [hsI_1, if_pos ⟨rfl, rfl, rfl⟩]) t2, hsI_hsI, show a + 1 + d = a + (d + 1) by omega]
def RdE (gx gm : AH) (fx fm : Option (Int32 × AH)) : Prop := ∃ v gx2 gm2, fx = some (v, gx2) ∧ fm = some (v, gm2) ∧ RX gx gx2 ∧ SM gm gm2 ∧ (v = -9 → ∃ P2 su2 a2, PV P2 ∧ SUV P2 su2 ∧ 0 < P2.n ∧ DX gx2 P2 su2 a2 ∧ DM gm2 P2 su2 a2)
theorem read_L {r N : Nat} {tx : Nat → Int32} (hr : r < 4) (hN : N ≤ 80) : ∀ k a i gx gm P su FX FM, N - a < k → a ≤ N → i ≤ a → 82 ≤ FX + i → N - a < FM → PV P → SUV P su → DX gx P su a → DM gm P su a → TX gx gm r N tx → RdE gx gm (l_X4_faultOf_8 FX r (nI i) gx) (l_X12_faultOf_9 FM (nI r) gm)
  | k + 1, a, i, gx, gm, P, su, 0, FM, hk, ha, hi, hFX, hFM, v, sv, dx, dm, t => absurd hFX (by omega)
  | k + 1, a, i, gx, gm, P, su, FX + 1, FM, hk, ha, hi, hFX, hFM, v, sv, dx, dm, t => by
    have hn := v.n10
    obtain ⟨b, b1, b2, b3, b4, b5⟩ := x_blanks hN ha dx.2.2 t
    have hmb := m_blanks (hx := gx) hr hN (b - a) (FM - (b - a)) a gm (by omega) (fun j h1 h2 => b3 j h1 (by omega)) dm.2.2.2.2 t
    rw [show FM - (b - a) + (b - a) = FM by omega, show a + (b - a) = b by omega] at hmb
    have hFM2 : N - b < FM - (b - a) := by omega
    rw [hmb]
    show RdE gx gm (b_X4_faultOf_8 (l_X4_faultOf_8 FX) r (nI i) gx) _
    unfold b_X4_faultOf_8
    have dxb := dx.at b
    have dmb := dm.at b
    have rx : RX gx (hsI gx 11 0 1 (nI b)) := RX.rfl.sI (by omega)
    have sm : SM gm (hsI gm 34 0 19 (nI b)) := SM.rfl.sI (by omega)
    have tb : TX (hsI gx 11 0 1 (nI b)) (hsI gm 34 0 19 (nI b)) r N tx := t.fr rx sm
    obtain ⟨FM', hFM'⟩ : ∃ FM', FM - (b - a) = FM' + 1 := ⟨FM - (b - a) - 1, by omega⟩
    rw [if_neg (show ¬ (80 : Int32) < nI i from fun z => by have := (nI_ltI (a := 80) (by omega) (by omega)).mp z; omega), b5, bd_some, dxb.2.2, tb.1, dxb.1.1, hFM']
    show RdE gx gm _ (b_X12_faultOf_9 (l_X12_faultOf_9 FM') (nI r) (hsI gm 34 0 19 (nI b)))
    unfold b_X12_faultOf_9
    rw [if_pos (inb_nI hr (by omega)), nI_cl (by omega), tb.2.1, dmb.2.2.2.2, dmb.1]
    by_cases e : b < N
    rotate_left
    · have eb : b = N := by omega
      rw [if_neg (fun z => by have := (nI_ltI (by omega) (by omega)).mp z; omega), if_pos (nI_le (by omega) (by omega))]
      by_cases n0 : P.n = 0
      · rw [if_pos ((nI_eq0 (by omega)).mpr n0), if_pos ((nI_eq0 (by omega)).mpr n0), if_pos (inb_nI hr (by omega))]
        exact ⟨nI N, _, _, rfl, rfl, rx, sm, fun z => absurd z (nI_n9 (by omega))⟩
      · rw [if_neg (fun z => n0 ((nI_eq0 (by omega)).mp z)), if_neg (fun z => n0 ((nI_eq0 (by omega)).mp z))]
        exact ⟨-9, _, _, rfl, rfl, rx, sm, fun _ => ⟨P, su, b, v, sv, by omega, dxb, dmb⟩⟩
    · rw [if_pos ((nI_ltI (by omega) (by omega)).mpr e), if_neg (nI_ge e (by omega)), m_byte tb hr hN (by omega), bd_some, if_pos e, if_neg (b4 e)]
      unfold f_X4_readItem
      rw [dxb.2.2, x_sign tb hN (by omega), bd_some, if_pos e]
      -- what follows an item
      have after : ∀ fx fm, RdO (hsI gx 11 0 1 (nI b)) (hsI gm 34 0 19 (nI b)) N b fx fm → RdE gx gm (bd fx (fun y3 h4 => (if y3 = 0 then some ((h4.1 11 0 1), h4) else l_X4_faultOf_8 FX r (nI i + (1 : Int32)) h4))) (bd fm (fun y3 h4 => (if y3 = 0 then some ((h4.1 34 0 19), h4) else l_X12_faultOf_9 FM' (nI r) h4))) := by
        rintro fx fm ⟨gx2, gm2, r1, r2, o⟩
        rcases o with ⟨a2, a9, o1, o2, o3, o4⟩ | ⟨a2, P2, su2, o1, o2, o3, o4, o5, o6, o7, o8, o9⟩
        · rw [o1, o2, bd_some, bd_some, if_pos rfl, if_pos rfl, o3, o4]
          exact ⟨nI a2, gx2, gm2, rfl, rfl, rx.tr r1, sm.tr r2, fun z => absurd z (nI_n9 (by omega))⟩
        · rw [o1, o2, bd_some, bd_some, if_neg i10, if_neg i10, nI_1]
          obtain ⟨w, gx3, gm3, z1, z2, z3, z4, z5⟩ := read_L hr hN k a2 (i + 1) gx2 gm2 P2 su2 FX FM' (by omega) o4 (by omega) (by omega) (by omega) o5 o6 o8 o9 (tb.fr r1 r2)
          exact ⟨w, gx3, gm3, z1, z2, (rx.tr r1).tr z3, (sm.tr r2).tr z4, z5⟩
      by_cases z : tx b = 98
      · rw [if_pos z, if_pos z]
        have hR := rd_reason v sv hr hN e dxb dmb tb
        have zn' : ∀ fx : Option (Int32 × AH), (∃ q h2, fx = some (q, h2) ∧ (q = 0 ∨ q = 1)) → bd fx (fun y3 h4 => some (zn y3, h4)) = fx := by
          rintro fx ⟨q, h2, e1, e2⟩
          rw [e1, bd_some]
          rcases e2 with e2 | e2
          · rw [e2, zn0]
          · rw [e2, zn1]
        rw [zn' _ (by
          obtain ⟨gx2, gm2, -, -, o⟩ := hR
          rcases o with ⟨a2, a9, o1, -⟩ | ⟨a2, P2, su2, o1, -⟩
          · exact ⟨0, gx2, o1, Or.inl rfl⟩
          · exact ⟨1, gx2, o1, Or.inr rfl⟩)]
        exact after _ _ hR
      · rw [if_neg z, if_neg z]
        exact after _ _ (rd_claim v sv hr hN e dxb dmb tb)
theorem x_fillK (h : AH) : f_J7_fill_53178_kindBits 1 0 h = some ((), hfl h 14 1 0 6 (fun _ => 0)) := by
  unfold f_J7_fill_53178_kindBits
  have := lp0 (fun F j => l_J7_fill_53178_kindBits_5 F 1 0 (nI j) (nI 6) (hfl h 14 1 0 j (fun _ => 0))) 6 (some ((), hfl h 14 1 0 6 (fun _ => 0))) (by
    intro F j hj
    show b_J7_fill_53178_kindBits_5 (l_J7_fill_53178_kindBits_5 F) 1 0 (nI j) (nI 6) _ = l_J7_fill_53178_kindBits_5 F 1 0 (nI (j + 1)) (nI 6) _
    rw [← hfl_s0]
    unfold b_J7_fill_53178_kindBits_5
    rw [if_neg (nI_ge hj (by omega)), if_pos (inb_nI (by omega) (by omega)), nI_cl (by omega), nI_1]) (by
    intro F
    show b_J7_fill_53178_kindBits_5 (l_J7_fill_53178_kindBits_5 F) 1 0 (nI 6) (nI 6) _ = _
    unfold b_J7_fill_53178_kindBits_5
    rw [if_pos (Int32.le_refl _)]) (by omega)
  simp only [nI_0, hfl_0] at this
  rw [this]
  rfl
theorem read_all {gx gm : AH} {r N : Nat} {tx : Nat → Int32} (hr : r < 4) (hN : N ≤ 80) (t : TX gx gm r N tx) : RdE gx gm (f_X4_faultOf r gx) (f_X12_faultOf (nI r) gm) := by
  unfold f_X4_faultOf f_X6_clear f_X12_faultOf
  rw [x_fillK, bd_some, bd_some]
  have rx : RX gx (hsI (hfl (hsI (hsI gx 12 1 5 0) 12 1 6 0) 14 1 0 6 (fun _ => 0)) 11 0 1 0) := (((RX.rfl.sI (by omega)).sI (by omega)).fl (by omega)).sI (by omega)
  have sm : SM gm (hsI (hsI (hsI gm 34 0 19 0) 34 0 21 0) 34 0 22 0) := ((SM.rfl.sI (by omega)).sI (by omega)).sI (by omega)
  have v0 : PV (0, 0, fun _ => 0, fun _ => 0, fun _ => 0) := ⟨Nat.zero_le _, Nat.zero_le _, fun x hx => absurd hx (Nat.not_lt_zero _), fun k hk => absurd hk (Nat.not_lt_zero _), fun x => Nat.zero_le _⟩
  have hdx : DX (hsI (hfl (hsI (hsI gx 12 1 5 0) 12 1 6 0) 14 1 0 6 (fun _ => 0)) 11 0 1 0) (0, 0, fun _ => 0, fun _ => 0, fun _ => 0) (fun _ => 0) 0 := by
    refine ⟨⟨?_, ?_, fun x hx => absurd hx (Nat.not_lt_zero _), ?_, fun k hk => absurd hk (Nat.not_lt_zero _)⟩, fun k hk => absurd hk (Nat.not_lt_zero _), ?_⟩
    · rw [hsI_k (by decide), hfl_k (by decide), hsI_1, if_neg (by omega), hsI_1, if_pos ⟨rfl, rfl, rfl⟩]; rfl
    · rw [hsI_k (by decide), hfl_k (by decide), hsI_1, if_pos ⟨rfl, rfl, rfl⟩]; rfl
    · intro j hj x
      rw [hsI_k (by decide), hfl_1, if_pos (by omega), bt_0]
      symm
      exact decide_eq_false (fun z => absurd z.1 (Nat.not_lt_zero _))
    · rw [hsI_1, if_pos ⟨rfl, rfl, rfl⟩]; rfl
  have hdm : DM (hsI (hsI (hsI gm 34 0 19 0) 34 0 21 0) 34 0 22 0) (0, 0, fun _ => 0, fun _ => 0, fun _ => 0) (fun _ => 0) 0 := by
    refine ⟨?_, ?_, fun x hx => absurd hx (Nat.not_lt_zero _), fun k hk => absurd hk (Nat.not_lt_zero _), ?_⟩
    · rw [hsI_1, if_neg (by omega), hsI_1, if_pos ⟨rfl, rfl, rfl⟩]; rfl
    · rw [hsI_1, if_pos ⟨rfl, rfl, rfl⟩]; rfl
    · rw [hsI_1, if_neg (by omega), hsI_1, if_neg (by omega), hsI_1, if_pos ⟨rfl, rfl, rfl⟩]; rfl
  obtain ⟨w, g1, g2, z1, z2, z3, z4, z5⟩ := read_L hr hN (N + 1) 0 0 _ _ (0, 0, fun _ => 0, fun _ => 0, fun _ => 0) (fun _ => 0) FU FU (by omega) (by omega) (by omega) (by show 82 ≤ 5000 + 0; omega) (by show N - 0 < 5000; omega) v0 (fun k hk => absurd hk (Nat.not_lt_zero _)) hdx hdm (t.fr rx sm)
  exact ⟨w, g1, g2, z1, z2, rx.tr z3, sm.tr z4, z5⟩
