theorem sb_X12_lossSet_4  (rc : Int32 → Int32 → AH → Option (Int32 × AH)) (x1 : Int32) (x2 : Int32) (hrc : ∀ (x1 : Int32) (x2 : Int32) (h : AH), Sim PP (3) k_X12_lossSet (4, [.inr (34, 0), .inl (.int x1), .inl (.int x2)], [], h) (rc x1 x2 h) (fE PP (3) k_X12_lossSet 22 (fun v => [av0, .inl (.int v), av0])))  (h : AH) : Sim PP (3) k_X12_lossSet (4, [.inr (34, 0), .inl (.int x1), .inl (.int x2)], [], h) (b_X12_lossSet_4 rc x1 x2 h) (fE PP (3) k_X12_lossSet 22 (fun v => [av0, .inl (.int v), av0])) := by
  unfold b_X12_lossSet_4
  refine S_br 4 22 8 [.inr (34, 0), .inl (.int x1), .inl (.int x2)] [] h rfl (fun _ => ?_) (fun _ => ?_)
  · exact S_ex x1 (fun v => [av0, .inl (.int v), av0]) rfl
  · refine S_di 3 11 199 2 [.inr (34, 0), .inl (.int x1), .inl (.int x2)] [.inl (.int x2), .inr (34, 0), .inl (.int x1)] [.inr (34, 0), .inl (.int x2)] [.inr (34, 0), .inl (.int x1), .inl (.int x2)] [.inl (.int x1)] h rfl rfl pp_199 (by decide) (s_X12_isAtLoss x2 h) (fun y1 h2 => ?_)
    refine S_br 1 17 13 [.inr (34, 0), .inl (.int x1), .inl (.int x2)] [.inl (.int x1)] h2 rfl (fun _ => ?_) (fun _ => ?_)
    · refine S_blk 5 (4, [.inr (34, 0), .inl (.int (x1 ||| (0 : Int32))), .inl (.int (x2 + (1 : Int32)))], [], h2) rfl ?_
      refine S_nrm [.inr (34, 0), .inl (.int (x1 ||| (0 : Int32))), .inl (.int (x2 + (1 : Int32)))] rfl ?_
      exact hrc (x1 ||| (0 : Int32)) (x2 + (1 : Int32)) h2
    · refine S_blk 8 (4, [.inr (34, 0), .inl (.int (x1 ||| ((1 : Int32) <<< (x2 &&& 31)))), .inl (.int (x2 + (1 : Int32)))], [], h2) rfl ?_
      refine S_nrm [.inr (34, 0), .inl (.int (x1 ||| ((1 : Int32) <<< (x2 &&& 31)))), .inl (.int (x2 + (1 : Int32)))] rfl ?_
      exact hrc (x1 ||| ((1 : Int32) <<< (x2 &&& 31))) (x2 + (1 : Int32)) h2
theorem sl_X12_lossSet_4     : ∀ (F : Nat) (x1 : Int32) (x2 : Int32) (h : AH), Sim PP (3) k_X12_lossSet (4, [.inr (34, 0), .inl (.int x1), .inl (.int x2)], [], h) (l_X12_lossSet_4 F x1 x2 h) (fE PP (3) k_X12_lossSet 22 (fun v => [av0, .inl (.int v), av0])) := by
  intro F
  induction F with
  | zero => intro x1 x2 h; exact S_none
  | succ F ih => intro x1 x2 h; exact sb_X12_lossSet_4 (l_X12_lossSet_4 F) x1 x2 ih h
theorem sc_X12_lossSet_22    (x1 : Int32)  (h : AH) : Sim PP (3) k_X12_lossSet (22, [av0, .inl (.int x1), av0], [], h) (c_X12_lossSet_22  x1 h) fI := by
  unfold c_X12_lossSet_22
  exact S_ri 1 (23, [av0, .inl (.int x1), av0], [.inl (.int x1)], h) rfl rfl
theorem s_X12_lossSet  (h : AH) : Sim PP (3) k_X12_lossSet (0, [.inr (34, 0), av0, av0], [], h) (f_X12_lossSet  h) fI := by
  unfold f_X12_lossSet
  refine S_blk 4 (4, [.inr (34, 0), .inl (.int (0 : Int32)), .inl (.int (0 : Int32))], [], h) rfl ?_
  refine S_nrm [.inr (34, 0), .inl (.int (0 : Int32)), .inl (.int (0 : Int32))] rfl ?_
  refine S_lp 22 (fun v => [av0, .inl (.int v), av0]) (sl_X12_lossSet_4  FU (0 : Int32) (0 : Int32) h) (fun v h => ?_)
  exact sc_X12_lossSet_22 v h
theorem s_X12_standWithout (x1 : Int32) (h : AH) : Sim PP (2) k_X12_standWithout (0, [.inr (34, 0), .inl (.int x1)], [], h) (f_X12_standWithout x1 h) fI := by
  unfold f_X12_standWithout
  refine S_di 2 2 191 0 [.inr (34, 0), .inl (.int x1)] [.inr (34, 0), .inr (34, 0)] [.inr (34, 0)] [.inr (34, 0), .inl (.int x1)] [.inr (34, 0)] h rfl rfl pp_191 (by decide) (s_X12_allClaims  h) (fun y1 h2 => ?_)
  refine S_di 5 8 192 0 [.inr (34, 0), .inl (.int x1)] [.inr (34, 0), .inl (.int (y1 &&& (x1 ^^^ (-1 : Int32)))), .inr (34, 0)] [.inr (34, 0)] [.inr (34, 0), .inl (.int x1)] [.inl (.int (y1 &&& (x1 ^^^ (-1 : Int32)))), .inr (34, 0)] h2 rfl rfl pp_192 (by decide) (s_X12_allReasons  h2) (fun y3 h4 => ?_)
  refine S_di 0 9 201 1 [.inr (34, 0), .inl (.int x1)] [.inl (.int y3), .inl (.int (y1 &&& (x1 ^^^ (-1 : Int32)))), .inr (34, 0)] [.inr (34, 0), .inl (.int (y1 &&& (x1 ^^^ (-1 : Int32)))), .inl (.int y3), av0, av0, av0, av0] [.inr (34, 0), .inl (.int x1)] [] h4 rfl rfl pp_201 (by decide) (s_X12_standing (y1 &&& (x1 ^^^ (-1 : Int32))) y3 h4) (fun y5 h6 => ?_)
  exact S_ri 0 (10, [.inr (34, 0), .inl (.int x1)], [.inl (.int y5)], h6) rfl rfl
theorem s_X12_fallSet (x1 : Int32) (h : AH) : Sim PP (3) k_X12_fallSet (0, [.inr (34, 0), .inl (.int x1)], [], h) (f_X12_fallSet x1 h) fI := by
  unfold f_X12_fallSet
  refine S_di 1 1 202 2 [.inr (34, 0), .inl (.int x1)] [.inr (34, 0)] [.inr (34, 0)] [.inr (34, 0), .inl (.int x1)] [] h rfl rfl pp_202 (by decide) (s_X12_standNow  h) (fun y1 h2 => ?_)
  refine S_di 4 6 203 2 [.inr (34, 0), .inl (.int x1)] [.inl (.int ((1 : Int32) <<< (x1 &&& 31))), .inr (34, 0), .inl (.int y1)] [.inr (34, 0), .inl (.int ((1 : Int32) <<< (x1 &&& 31)))] [.inr (34, 0), .inl (.int x1)] [.inl (.int y1)] h2 rfl rfl pp_203 (by decide) (s_X12_standWithout ((1 : Int32) <<< (x1 &&& 31)) h2) (fun y3 h4 => ?_)
  exact S_ri 9 (16, [.inr (34, 0), .inl (.int x1)], [.inl (.int ((y1 &&& (y3 ^^^ (-1 : Int32))) &&& (((1 : Int32) <<< (x1 &&& 31)) ^^^ (-1 : Int32))))], h4) rfl rfl
theorem s_X12_isAct (x1 : Int32) (h : AH) : Sim PP (0) k_X12_isAct (0, [.inr (34, 0), .inl (.int x1)], [], h) (f_X12_isAct x1 h) fI := by
  unfold f_X12_isAct
  refine S_grd 4 (4, [.inr (34, 0), .inl (.int x1)], [.inl (.int (h.1 41 0 x1.toNatClampNeg))], h) rfl (fun _ => ?_)
  refine S_br 2 12 6 [.inr (34, 0), .inl (.int x1)] [] h rfl (fun _ => ?_) (fun _ => ?_)
  · exact S_ri 2 (15, [.inr (34, 0), .inl (.int x1)], [.inl (.int (1 : Int32))], h) rfl rfl
  · refine S_grd 4 (10, [.inr (34, 0), .inl (.int x1)], [.inl (.int (h.1 41 0 x1.toNatClampNeg))], h) rfl (fun _ => ?_)
    refine S_br 2 12 14 [.inr (34, 0), .inl (.int x1)] [] h rfl (fun _ => ?_) (fun _ => ?_)
    · exact S_ri 2 (15, [.inr (34, 0), .inl (.int x1)], [.inl (.int (1 : Int32))], h) rfl rfl
    · exact S_ri 1 (15, [.inr (34, 0), .inl (.int x1)], [.inl (.int (0 : Int32))], h) rfl rfl
theorem sb_X12_actSet_4  (rc : Int32 → Int32 → AH → Option (Int32 × AH)) (x1 : Int32) (x2 : Int32) (hrc : ∀ (x1 : Int32) (x2 : Int32) (h : AH), Sim PP (1) k_X12_actSet (4, [.inr (34, 0), .inl (.int x1), .inl (.int x2)], [], h) (rc x1 x2 h) (fE PP (1) k_X12_actSet 22 (fun v => [av0, .inl (.int v), av0])))  (h : AH) : Sim PP (1) k_X12_actSet (4, [.inr (34, 0), .inl (.int x1), .inl (.int x2)], [], h) (b_X12_actSet_4 rc x1 x2 h) (fE PP (1) k_X12_actSet 22 (fun v => [av0, .inl (.int v), av0])) := by
  unfold b_X12_actSet_4
  refine S_br 4 22 8 [.inr (34, 0), .inl (.int x1), .inl (.int x2)] [] h rfl (fun _ => ?_) (fun _ => ?_)
  · exact S_ex x1 (fun v => [av0, .inl (.int v), av0]) rfl
  · refine S_di 3 11 194 0 [.inr (34, 0), .inl (.int x1), .inl (.int x2)] [.inl (.int x2), .inr (34, 0), .inl (.int x1)] [.inr (34, 0), .inl (.int x2)] [.inr (34, 0), .inl (.int x1), .inl (.int x2)] [.inl (.int x1)] h rfl rfl pp_194 (by decide) (s_X12_isAct x2 h) (fun y1 h2 => ?_)
    refine S_br 1 17 13 [.inr (34, 0), .inl (.int x1), .inl (.int x2)] [.inl (.int x1)] h2 rfl (fun _ => ?_) (fun _ => ?_)
    · refine S_blk 5 (4, [.inr (34, 0), .inl (.int (x1 ||| (0 : Int32))), .inl (.int (x2 + (1 : Int32)))], [], h2) rfl ?_
      refine S_nrm [.inr (34, 0), .inl (.int (x1 ||| (0 : Int32))), .inl (.int (x2 + (1 : Int32)))] rfl ?_
      exact hrc (x1 ||| (0 : Int32)) (x2 + (1 : Int32)) h2
    · refine S_blk 8 (4, [.inr (34, 0), .inl (.int (x1 ||| ((1 : Int32) <<< (x2 &&& 31)))), .inl (.int (x2 + (1 : Int32)))], [], h2) rfl ?_
      refine S_nrm [.inr (34, 0), .inl (.int (x1 ||| ((1 : Int32) <<< (x2 &&& 31)))), .inl (.int (x2 + (1 : Int32)))] rfl ?_
      exact hrc (x1 ||| ((1 : Int32) <<< (x2 &&& 31))) (x2 + (1 : Int32)) h2
theorem sl_X12_actSet_4     : ∀ (F : Nat) (x1 : Int32) (x2 : Int32) (h : AH), Sim PP (1) k_X12_actSet (4, [.inr (34, 0), .inl (.int x1), .inl (.int x2)], [], h) (l_X12_actSet_4 F x1 x2 h) (fE PP (1) k_X12_actSet 22 (fun v => [av0, .inl (.int v), av0])) := by
  intro F
  induction F with
  | zero => intro x1 x2 h; exact S_none
  | succ F ih => intro x1 x2 h; exact sb_X12_actSet_4 (l_X12_actSet_4 F) x1 x2 ih h
theorem sc_X12_actSet_22    (x1 : Int32)  (h : AH) : Sim PP (1) k_X12_actSet (22, [av0, .inl (.int x1), av0], [], h) (c_X12_actSet_22  x1 h) fI := by
  unfold c_X12_actSet_22
  exact S_ri 1 (23, [av0, .inl (.int x1), av0], [.inl (.int x1)], h) rfl rfl
theorem s_X12_actSet  (h : AH) : Sim PP (1) k_X12_actSet (0, [.inr (34, 0), av0, av0], [], h) (f_X12_actSet  h) fI := by
  unfold f_X12_actSet
  refine S_blk 4 (4, [.inr (34, 0), .inl (.int (0 : Int32)), .inl (.int (0 : Int32))], [], h) rfl ?_
  refine S_nrm [.inr (34, 0), .inl (.int (0 : Int32)), .inl (.int (0 : Int32))] rfl ?_
  refine S_lp 22 (fun v => [av0, .inl (.int v), av0]) (sl_X12_actSet_4  FU (0 : Int32) (0 : Int32) h) (fun v h => ?_)
  exact sc_X12_actSet_22 v h
theorem s_X12_mark (x1 : Int32) (x2 : Int32) (h : AH) : Sim PP (4) k_X12_mark (0, [.inr (34, 0), .inl (.int x1), .inl (.int x2), av0], [], h) (f_X12_mark x1 x2 h) fI := by
  unfold f_X12_mark
  refine S_di 2 2 189 1 [.inr (34, 0), .inl (.int x1), .inl (.int x2), av0] [.inl (.int x1), .inr (34, 0)] [.inr (34, 0), .inl (.int x1)] [.inr (34, 0), .inl (.int x1), .inl (.int x2), av0] [] h rfl rfl pp_189 (by decide) (s_X12_isClaim x1 h) (fun y1 h2 => ?_)
  refine S_br 1 9 4 [.inr (34, 0), .inl (.int x1), .inl (.int x2), av0] [] h2 rfl (fun _ => ?_) (fun _ => ?_)
  · exact S_ri 1 (10, [.inr (34, 0), .inl (.int x1), .inl (.int x2), av0], [.inl (.int (-1 : Int32))], h2) rfl rfl
  · refine S_di 3 7 154 0 [.inr (34, 0), .inl (.int x1), .inl (.int x2), av0] [.inl (.int (5 : Int32)), .inl (.int (1 : Int32)), .inl (.int x2)] [.inl (.int x2), .inl (.int (1 : Int32)), .inl (.int (5 : Int32))] [.inr (34, 0), .inl (.int x1), .inl (.int x2), av0] [] h2 rfl rfl pp_154 (by decide) (s_X12_in x2 (1 : Int32) (5 : Int32) h2) (fun y3 h4 => ?_)
    refine S_br 1 9 11 [.inr (34, 0), .inl (.int x1), .inl (.int x2), av0] [] h4 rfl (fun _ => ?_) (fun _ => ?_)
    · exact S_ri 1 (10, [.inr (34, 0), .inl (.int x1), .inl (.int x2), av0], [.inl (.int (-1 : Int32))], h4) rfl rfl
    · refine S_grd 4 (15, [.inr (34, 0), .inl (.int x1), .inl (.int x2), av0], [.inl (.int (h4.1 41 0 x1.toNatClampNeg))], h4) rfl (fun _ => ?_)
      refine S_br 4 35 19 [.inr (34, 0), .inl (.int x1), .inl (.int x2), .inl (.int (h4.1 41 0 x1.toNatClampNeg))] [] h4 rfl (fun _ => ?_) (fun _ => ?_)
      · refine S_blk 2 (if x2 = 1 then 37 else if x2 = 2 then 42 else if x2 = 3 then 51 else if x2 = 4 then 56 else 65, [.inr (34, 0), .inl (.int x1), .inl (.int x2), .inl (.int (h4.1 41 0 x1.toNatClampNeg))], [], h4) rfl ?_
        refine S_ite (fun _ => ?_) (fun _ => ?_)
        · refine S_di 2 39 196 1 [.inr (34, 0), .inl (.int x1), .inl (.int x2), .inl (.int (h4.1 41 0 x1.toNatClampNeg))] [.inl (.int x1), .inr (34, 0)] [.inr (34, 0), .inl (.int x1), av0, av0] [.inr (34, 0), .inl (.int x1), .inl (.int x2), .inl (.int (h4.1 41 0 x1.toNatClampNeg))] [] h4 rfl rfl pp_196 (by decide) (s_X12_reasonsWith x1 h4) (fun y5 h6 => ?_)
          refine S_di 0 40 156 0 [.inr (34, 0), .inl (.int x1), .inl (.int x2), .inl (.int (h4.1 41 0 x1.toNatClampNeg))] [.inl (.int y5)] [.inl (.int y5), av0, av0] [.inr (34, 0), .inl (.int x1), .inl (.int x2), .inl (.int (h4.1 41 0 x1.toNatClampNeg))] [] h6 rfl rfl pp_156 (by decide) (s_X12_bits y5 h6) (fun y7 h8 => ?_)
          exact S_ri 0 (41, [.inr (34, 0), .inl (.int x1), .inl (.int x2), .inl (.int (h4.1 41 0 x1.toNatClampNeg))], [.inl (.int y7)], h8) rfl rfl
        · refine S_ite (fun _ => ?_) (fun _ => ?_)
          · refine S_di 1 43 200 3 [.inr (34, 0), .inl (.int x1), .inl (.int x2), .inl (.int (h4.1 41 0 x1.toNatClampNeg))] [.inr (34, 0)] [.inr (34, 0), av0, av0] [.inr (34, 0), .inl (.int x1), .inl (.int x2), .inl (.int (h4.1 41 0 x1.toNatClampNeg))] [] h4 rfl rfl pp_200 (by decide) (s_X12_lossSet  h4) (fun y9 h10 => ?_)
            refine S_di 5 49 156 0 [.inr (34, 0), .inl (.int x1), .inl (.int x2), .inl (.int (h4.1 41 0 x1.toNatClampNeg))] [.inl (.int (y9 &&& ((h10.1 34 0 16) ^^^ (-1 : Int32))))] [.inl (.int (y9 &&& ((h10.1 34 0 16) ^^^ (-1 : Int32)))), av0, av0] [.inr (34, 0), .inl (.int x1), .inl (.int x2), .inl (.int (h4.1 41 0 x1.toNatClampNeg))] [] h10 rfl rfl pp_156 (by decide) (s_X12_bits (y9 &&& ((h10.1 34 0 16) ^^^ (-1 : Int32))) h10) (fun y11 h12 => ?_)
            exact S_ri 0 (50, [.inr (34, 0), .inl (.int x1), .inl (.int x2), .inl (.int (h4.1 41 0 x1.toNatClampNeg))], [.inl (.int y11)], h12) rfl rfl
          · refine S_ite (fun _ => ?_) (fun _ => ?_)
            · refine S_di 2 53 208 3 [.inr (34, 0), .inl (.int x1), .inl (.int x2), .inl (.int (h4.1 41 0 x1.toNatClampNeg))] [.inl (.int x1), .inr (34, 0)] [.inr (34, 0), .inl (.int x1)] [.inr (34, 0), .inl (.int x1), .inl (.int x2), .inl (.int (h4.1 41 0 x1.toNatClampNeg))] [] h4 rfl rfl pp_208 (by decide) (s_X12_fallSet x1 h4) (fun y13 h14 => ?_)
              refine S_di 0 54 156 0 [.inr (34, 0), .inl (.int x1), .inl (.int x2), .inl (.int (h4.1 41 0 x1.toNatClampNeg))] [.inl (.int y13)] [.inl (.int y13), av0, av0] [.inr (34, 0), .inl (.int x1), .inl (.int x2), .inl (.int (h4.1 41 0 x1.toNatClampNeg))] [] h14 rfl rfl pp_156 (by decide) (s_X12_bits y13 h14) (fun y15 h16 => ?_)
              exact S_ri 0 (55, [.inr (34, 0), .inl (.int x1), .inl (.int x2), .inl (.int (h4.1 41 0 x1.toNatClampNeg))], [.inl (.int y15)], h16) rfl rfl
            · refine S_ite (fun _ => ?_) (fun _ => ?_)
              · refine S_di 3 59 155 0 [.inr (34, 0), .inl (.int x1), .inl (.int x2), .inl (.int (h4.1 41 0 x1.toNatClampNeg))] [.inl (.int x1), .inl (.int (h4.1 34 0 17))] [.inl (.int (h4.1 34 0 17)), .inl (.int x1)] [.inr (34, 0), .inl (.int x1), .inl (.int x2), .inl (.int (h4.1 41 0 x1.toNatClampNeg))] [] h4 rfl rfl pp_155 (by decide) (s_X12_has (h4.1 34 0 17) x1 h4) (fun y17 h18 => ?_)
                refine S_br 1 63 61 [.inr (34, 0), .inl (.int x1), .inl (.int x2), .inl (.int (h4.1 41 0 x1.toNatClampNeg))] [] h18 rfl (fun _ => ?_) (fun _ => ?_)
                · exact S_ri 1 (64, [.inr (34, 0), .inl (.int x1), .inl (.int x2), .inl (.int (h4.1 41 0 x1.toNatClampNeg))], [.inl (.int (0 : Int32))], h18) rfl rfl
                · exact S_ri 2 (64, [.inr (34, 0), .inl (.int x1), .inl (.int x2), .inl (.int (h4.1 41 0 x1.toNatClampNeg))], [.inl (.int (1 : Int32))], h18) rfl rfl
              · refine S_di 1 66 209 1 [.inr (34, 0), .inl (.int x1), .inl (.int x2), .inl (.int (h4.1 41 0 x1.toNatClampNeg))] [.inr (34, 0)] [.inr (34, 0), av0, av0] [.inr (34, 0), .inl (.int x1), .inl (.int x2), .inl (.int (h4.1 41 0 x1.toNatClampNeg))] [] h4 rfl rfl pp_209 (by decide) (s_X12_actSet  h4) (fun y19 h20 => ?_)
                refine S_di 0 67 156 0 [.inr (34, 0), .inl (.int x1), .inl (.int x2), .inl (.int (h4.1 41 0 x1.toNatClampNeg))] [.inl (.int y19)] [.inl (.int y19), av0, av0] [.inr (34, 0), .inl (.int x1), .inl (.int x2), .inl (.int (h4.1 41 0 x1.toNatClampNeg))] [] h20 rfl rfl pp_156 (by decide) (s_X12_bits y19 h20) (fun y21 h22 => ?_)
                exact S_ri 0 (68, [.inr (34, 0), .inl (.int x1), .inl (.int x2), .inl (.int (h4.1 41 0 x1.toNatClampNeg))], [.inl (.int y21)], h22) rfl rfl
      · refine S_br 3 22 25 [.inr (34, 0), .inl (.int x1), .inl (.int x2), .inl (.int (h4.1 41 0 x1.toNatClampNeg))] [] h4 rfl (fun _ => ?_) (fun _ => ?_)
        · refine S_br 3 35 25 [.inr (34, 0), .inl (.int x1), .inl (.int x2), .inl (.int (h4.1 41 0 x1.toNatClampNeg))] [] h4 rfl (fun _ => ?_) (fun _ => ?_)
          · refine S_blk 2 (if x2 = 1 then 37 else if x2 = 2 then 42 else if x2 = 3 then 51 else if x2 = 4 then 56 else 65, [.inr (34, 0), .inl (.int x1), .inl (.int x2), .inl (.int (h4.1 41 0 x1.toNatClampNeg))], [], h4) rfl ?_
            refine S_ite (fun _ => ?_) (fun _ => ?_)
            · refine S_di 2 39 196 1 [.inr (34, 0), .inl (.int x1), .inl (.int x2), .inl (.int (h4.1 41 0 x1.toNatClampNeg))] [.inl (.int x1), .inr (34, 0)] [.inr (34, 0), .inl (.int x1), av0, av0] [.inr (34, 0), .inl (.int x1), .inl (.int x2), .inl (.int (h4.1 41 0 x1.toNatClampNeg))] [] h4 rfl rfl pp_196 (by decide) (s_X12_reasonsWith x1 h4) (fun y23 h24 => ?_)
              refine S_di 0 40 156 0 [.inr (34, 0), .inl (.int x1), .inl (.int x2), .inl (.int (h4.1 41 0 x1.toNatClampNeg))] [.inl (.int y23)] [.inl (.int y23), av0, av0] [.inr (34, 0), .inl (.int x1), .inl (.int x2), .inl (.int (h4.1 41 0 x1.toNatClampNeg))] [] h24 rfl rfl pp_156 (by decide) (s_X12_bits y23 h24) (fun y25 h26 => ?_)
              exact S_ri 0 (41, [.inr (34, 0), .inl (.int x1), .inl (.int x2), .inl (.int (h4.1 41 0 x1.toNatClampNeg))], [.inl (.int y25)], h26) rfl rfl
            · refine S_ite (fun _ => ?_) (fun _ => ?_)
              · refine S_di 1 43 200 3 [.inr (34, 0), .inl (.int x1), .inl (.int x2), .inl (.int (h4.1 41 0 x1.toNatClampNeg))] [.inr (34, 0)] [.inr (34, 0), av0, av0] [.inr (34, 0), .inl (.int x1), .inl (.int x2), .inl (.int (h4.1 41 0 x1.toNatClampNeg))] [] h4 rfl rfl pp_200 (by decide) (s_X12_lossSet  h4) (fun y27 h28 => ?_)
                refine S_di 5 49 156 0 [.inr (34, 0), .inl (.int x1), .inl (.int x2), .inl (.int (h4.1 41 0 x1.toNatClampNeg))] [.inl (.int (y27 &&& ((h28.1 34 0 16) ^^^ (-1 : Int32))))] [.inl (.int (y27 &&& ((h28.1 34 0 16) ^^^ (-1 : Int32)))), av0, av0] [.inr (34, 0), .inl (.int x1), .inl (.int x2), .inl (.int (h4.1 41 0 x1.toNatClampNeg))] [] h28 rfl rfl pp_156 (by decide) (s_X12_bits (y27 &&& ((h28.1 34 0 16) ^^^ (-1 : Int32))) h28) (fun y29 h30 => ?_)
                exact S_ri 0 (50, [.inr (34, 0), .inl (.int x1), .inl (.int x2), .inl (.int (h4.1 41 0 x1.toNatClampNeg))], [.inl (.int y29)], h30) rfl rfl
              · refine S_ite (fun _ => ?_) (fun _ => ?_)
                · refine S_di 2 53 208 3 [.inr (34, 0), .inl (.int x1), .inl (.int x2), .inl (.int (h4.1 41 0 x1.toNatClampNeg))] [.inl (.int x1), .inr (34, 0)] [.inr (34, 0), .inl (.int x1)] [.inr (34, 0), .inl (.int x1), .inl (.int x2), .inl (.int (h4.1 41 0 x1.toNatClampNeg))] [] h4 rfl rfl pp_208 (by decide) (s_X12_fallSet x1 h4) (fun y31 h32 => ?_)
                  refine S_di 0 54 156 0 [.inr (34, 0), .inl (.int x1), .inl (.int x2), .inl (.int (h4.1 41 0 x1.toNatClampNeg))] [.inl (.int y31)] [.inl (.int y31), av0, av0] [.inr (34, 0), .inl (.int x1), .inl (.int x2), .inl (.int (h4.1 41 0 x1.toNatClampNeg))] [] h32 rfl rfl pp_156 (by decide) (s_X12_bits y31 h32) (fun y33 h34 => ?_)
                  exact S_ri 0 (55, [.inr (34, 0), .inl (.int x1), .inl (.int x2), .inl (.int (h4.1 41 0 x1.toNatClampNeg))], [.inl (.int y33)], h34) rfl rfl
                · refine S_ite (fun _ => ?_) (fun _ => ?_)
                  · refine S_di 3 59 155 0 [.inr (34, 0), .inl (.int x1), .inl (.int x2), .inl (.int (h4.1 41 0 x1.toNatClampNeg))] [.inl (.int x1), .inl (.int (h4.1 34 0 17))] [.inl (.int (h4.1 34 0 17)), .inl (.int x1)] [.inr (34, 0), .inl (.int x1), .inl (.int x2), .inl (.int (h4.1 41 0 x1.toNatClampNeg))] [] h4 rfl rfl pp_155 (by decide) (s_X12_has (h4.1 34 0 17) x1 h4) (fun y35 h36 => ?_)
                    refine S_br 1 63 61 [.inr (34, 0), .inl (.int x1), .inl (.int x2), .inl (.int (h4.1 41 0 x1.toNatClampNeg))] [] h36 rfl (fun _ => ?_) (fun _ => ?_)
                    · exact S_ri 1 (64, [.inr (34, 0), .inl (.int x1), .inl (.int x2), .inl (.int (h4.1 41 0 x1.toNatClampNeg))], [.inl (.int (0 : Int32))], h36) rfl rfl
                    · exact S_ri 2 (64, [.inr (34, 0), .inl (.int x1), .inl (.int x2), .inl (.int (h4.1 41 0 x1.toNatClampNeg))], [.inl (.int (1 : Int32))], h36) rfl rfl
                  · refine S_di 1 66 209 1 [.inr (34, 0), .inl (.int x1), .inl (.int x2), .inl (.int (h4.1 41 0 x1.toNatClampNeg))] [.inr (34, 0)] [.inr (34, 0), av0, av0] [.inr (34, 0), .inl (.int x1), .inl (.int x2), .inl (.int (h4.1 41 0 x1.toNatClampNeg))] [] h4 rfl rfl pp_209 (by decide) (s_X12_actSet  h4) (fun y37 h38 => ?_)
                    refine S_di 0 67 156 0 [.inr (34, 0), .inl (.int x1), .inl (.int x2), .inl (.int (h4.1 41 0 x1.toNatClampNeg))] [.inl (.int y37)] [.inl (.int y37), av0, av0] [.inr (34, 0), .inl (.int x1), .inl (.int x2), .inl (.int (h4.1 41 0 x1.toNatClampNeg))] [] h38 rfl rfl pp_156 (by decide) (s_X12_bits y37 h38) (fun y39 h40 => ?_)
                    exact S_ri 0 (68, [.inr (34, 0), .inl (.int x1), .inl (.int x2), .inl (.int (h4.1 41 0 x1.toNatClampNeg))], [.inl (.int y39)], h40) rfl rfl
          · refine S_br 3 28 31 [.inr (34, 0), .inl (.int x1), .inl (.int x2), .inl (.int (h4.1 41 0 x1.toNatClampNeg))] [] h4 rfl (fun _ => ?_) (fun _ => ?_)
            · refine S_br 3 35 31 [.inr (34, 0), .inl (.int x1), .inl (.int x2), .inl (.int (h4.1 41 0 x1.toNatClampNeg))] [] h4 rfl (fun _ => ?_) (fun _ => ?_)
              · refine S_blk 2 (if x2 = 1 then 37 else if x2 = 2 then 42 else if x2 = 3 then 51 else if x2 = 4 then 56 else 65, [.inr (34, 0), .inl (.int x1), .inl (.int x2), .inl (.int (h4.1 41 0 x1.toNatClampNeg))], [], h4) rfl ?_
                refine S_ite (fun _ => ?_) (fun _ => ?_)
                · refine S_di 2 39 196 1 [.inr (34, 0), .inl (.int x1), .inl (.int x2), .inl (.int (h4.1 41 0 x1.toNatClampNeg))] [.inl (.int x1), .inr (34, 0)] [.inr (34, 0), .inl (.int x1), av0, av0] [.inr (34, 0), .inl (.int x1), .inl (.int x2), .inl (.int (h4.1 41 0 x1.toNatClampNeg))] [] h4 rfl rfl pp_196 (by decide) (s_X12_reasonsWith x1 h4) (fun y41 h42 => ?_)
                  refine S_di 0 40 156 0 [.inr (34, 0), .inl (.int x1), .inl (.int x2), .inl (.int (h4.1 41 0 x1.toNatClampNeg))] [.inl (.int y41)] [.inl (.int y41), av0, av0] [.inr (34, 0), .inl (.int x1), .inl (.int x2), .inl (.int (h4.1 41 0 x1.toNatClampNeg))] [] h42 rfl rfl pp_156 (by decide) (s_X12_bits y41 h42) (fun y43 h44 => ?_)
                  exact S_ri 0 (41, [.inr (34, 0), .inl (.int x1), .inl (.int x2), .inl (.int (h4.1 41 0 x1.toNatClampNeg))], [.inl (.int y43)], h44) rfl rfl
                · refine S_ite (fun _ => ?_) (fun _ => ?_)
                  · refine S_di 1 43 200 3 [.inr (34, 0), .inl (.int x1), .inl (.int x2), .inl (.int (h4.1 41 0 x1.toNatClampNeg))] [.inr (34, 0)] [.inr (34, 0), av0, av0] [.inr (34, 0), .inl (.int x1), .inl (.int x2), .inl (.int (h4.1 41 0 x1.toNatClampNeg))] [] h4 rfl rfl pp_200 (by decide) (s_X12_lossSet  h4) (fun y45 h46 => ?_)
                    refine S_di 5 49 156 0 [.inr (34, 0), .inl (.int x1), .inl (.int x2), .inl (.int (h4.1 41 0 x1.toNatClampNeg))] [.inl (.int (y45 &&& ((h46.1 34 0 16) ^^^ (-1 : Int32))))] [.inl (.int (y45 &&& ((h46.1 34 0 16) ^^^ (-1 : Int32)))), av0, av0] [.inr (34, 0), .inl (.int x1), .inl (.int x2), .inl (.int (h4.1 41 0 x1.toNatClampNeg))] [] h46 rfl rfl pp_156 (by decide) (s_X12_bits (y45 &&& ((h46.1 34 0 16) ^^^ (-1 : Int32))) h46) (fun y47 h48 => ?_)
                    exact S_ri 0 (50, [.inr (34, 0), .inl (.int x1), .inl (.int x2), .inl (.int (h4.1 41 0 x1.toNatClampNeg))], [.inl (.int y47)], h48) rfl rfl
                  · refine S_ite (fun _ => ?_) (fun _ => ?_)
                    · refine S_di 2 53 208 3 [.inr (34, 0), .inl (.int x1), .inl (.int x2), .inl (.int (h4.1 41 0 x1.toNatClampNeg))] [.inl (.int x1), .inr (34, 0)] [.inr (34, 0), .inl (.int x1)] [.inr (34, 0), .inl (.int x1), .inl (.int x2), .inl (.int (h4.1 41 0 x1.toNatClampNeg))] [] h4 rfl rfl pp_208 (by decide) (s_X12_fallSet x1 h4) (fun y49 h50 => ?_)
                      refine S_di 0 54 156 0 [.inr (34, 0), .inl (.int x1), .inl (.int x2), .inl (.int (h4.1 41 0 x1.toNatClampNeg))] [.inl (.int y49)] [.inl (.int y49), av0, av0] [.inr (34, 0), .inl (.int x1), .inl (.int x2), .inl (.int (h4.1 41 0 x1.toNatClampNeg))] [] h50 rfl rfl pp_156 (by decide) (s_X12_bits y49 h50) (fun y51 h52 => ?_)
                      exact S_ri 0 (55, [.inr (34, 0), .inl (.int x1), .inl (.int x2), .inl (.int (h4.1 41 0 x1.toNatClampNeg))], [.inl (.int y51)], h52) rfl rfl
                    · refine S_ite (fun _ => ?_) (fun _ => ?_)
                      · refine S_di 3 59 155 0 [.inr (34, 0), .inl (.int x1), .inl (.int x2), .inl (.int (h4.1 41 0 x1.toNatClampNeg))] [.inl (.int x1), .inl (.int (h4.1 34 0 17))] [.inl (.int (h4.1 34 0 17)), .inl (.int x1)] [.inr (34, 0), .inl (.int x1), .inl (.int x2), .inl (.int (h4.1 41 0 x1.toNatClampNeg))] [] h4 rfl rfl pp_155 (by decide) (s_X12_has (h4.1 34 0 17) x1 h4) (fun y53 h54 => ?_)
                        refine S_br 1 63 61 [.inr (34, 0), .inl (.int x1), .inl (.int x2), .inl (.int (h4.1 41 0 x1.toNatClampNeg))] [] h54 rfl (fun _ => ?_) (fun _ => ?_)
                        · exact S_ri 1 (64, [.inr (34, 0), .inl (.int x1), .inl (.int x2), .inl (.int (h4.1 41 0 x1.toNatClampNeg))], [.inl (.int (0 : Int32))], h54) rfl rfl
                        · exact S_ri 2 (64, [.inr (34, 0), .inl (.int x1), .inl (.int x2), .inl (.int (h4.1 41 0 x1.toNatClampNeg))], [.inl (.int (1 : Int32))], h54) rfl rfl
                      · refine S_di 1 66 209 1 [.inr (34, 0), .inl (.int x1), .inl (.int x2), .inl (.int (h4.1 41 0 x1.toNatClampNeg))] [.inr (34, 0)] [.inr (34, 0), av0, av0] [.inr (34, 0), .inl (.int x1), .inl (.int x2), .inl (.int (h4.1 41 0 x1.toNatClampNeg))] [] h4 rfl rfl pp_209 (by decide) (s_X12_actSet  h4) (fun y55 h56 => ?_)
                        refine S_di 0 67 156 0 [.inr (34, 0), .inl (.int x1), .inl (.int x2), .inl (.int (h4.1 41 0 x1.toNatClampNeg))] [.inl (.int y55)] [.inl (.int y55), av0, av0] [.inr (34, 0), .inl (.int x1), .inl (.int x2), .inl (.int (h4.1 41 0 x1.toNatClampNeg))] [] h56 rfl rfl pp_156 (by decide) (s_X12_bits y55 h56) (fun y57 h58 => ?_)
                        exact S_ri 0 (68, [.inr (34, 0), .inl (.int x1), .inl (.int x2), .inl (.int (h4.1 41 0 x1.toNatClampNeg))], [.inl (.int y57)], h58) rfl rfl
              · refine S_di 2 33 159 0 [.inr (34, 0), .inl (.int x1), .inl (.int x2), .inl (.int (h4.1 41 0 x1.toNatClampNeg))] [.inl (.int (3 : Int32)), .inr (34, 0)] [.inr (34, 0), .inl (.int (3 : Int32))] [.inr (34, 0), .inl (.int x1), .inl (.int x2), .inl (.int (h4.1 41 0 x1.toNatClampNeg))] [] h4 rfl rfl pp_159 (by decide) (s_X12_meets (3 : Int32) h4) (fun y59 h60 => ?_)
                exact S_ri 0 (34, [.inr (34, 0), .inl (.int x1), .inl (.int x2), .inl (.int (h4.1 41 0 x1.toNatClampNeg))], [.inl (.int y59)], h60) rfl rfl
            · refine S_di 2 33 159 0 [.inr (34, 0), .inl (.int x1), .inl (.int x2), .inl (.int (h4.1 41 0 x1.toNatClampNeg))] [.inl (.int (3 : Int32)), .inr (34, 0)] [.inr (34, 0), .inl (.int (3 : Int32))] [.inr (34, 0), .inl (.int x1), .inl (.int x2), .inl (.int (h4.1 41 0 x1.toNatClampNeg))] [] h4 rfl rfl pp_159 (by decide) (s_X12_meets (3 : Int32) h4) (fun y61 h62 => ?_)
              exact S_ri 0 (34, [.inr (34, 0), .inl (.int x1), .inl (.int x2), .inl (.int (h4.1 41 0 x1.toNatClampNeg))], [.inl (.int y61)], h62) rfl rfl
        · refine S_br 3 28 31 [.inr (34, 0), .inl (.int x1), .inl (.int x2), .inl (.int (h4.1 41 0 x1.toNatClampNeg))] [] h4 rfl (fun _ => ?_) (fun _ => ?_)
          · refine S_br 3 35 31 [.inr (34, 0), .inl (.int x1), .inl (.int x2), .inl (.int (h4.1 41 0 x1.toNatClampNeg))] [] h4 rfl (fun _ => ?_) (fun _ => ?_)
            · refine S_blk 2 (if x2 = 1 then 37 else if x2 = 2 then 42 else if x2 = 3 then 51 else if x2 = 4 then 56 else 65, [.inr (34, 0), .inl (.int x1), .inl (.int x2), .inl (.int (h4.1 41 0 x1.toNatClampNeg))], [], h4) rfl ?_
              refine S_ite (fun _ => ?_) (fun _ => ?_)
              · refine S_di 2 39 196 1 [.inr (34, 0), .inl (.int x1), .inl (.int x2), .inl (.int (h4.1 41 0 x1.toNatClampNeg))] [.inl (.int x1), .inr (34, 0)] [.inr (34, 0), .inl (.int x1), av0, av0] [.inr (34, 0), .inl (.int x1), .inl (.int x2), .inl (.int (h4.1 41 0 x1.toNatClampNeg))] [] h4 rfl rfl pp_196 (by decide) (s_X12_reasonsWith x1 h4) (fun y63 h64 => ?_)
                refine S_di 0 40 156 0 [.inr (34, 0), .inl (.int x1), .inl (.int x2), .inl (.int (h4.1 41 0 x1.toNatClampNeg))] [.inl (.int y63)] [.inl (.int y63), av0, av0] [.inr (34, 0), .inl (.int x1), .inl (.int x2), .inl (.int (h4.1 41 0 x1.toNatClampNeg))] [] h64 rfl rfl pp_156 (by decide) (s_X12_bits y63 h64) (fun y65 h66 => ?_)
                exact S_ri 0 (41, [.inr (34, 0), .inl (.int x1), .inl (.int x2), .inl (.int (h4.1 41 0 x1.toNatClampNeg))], [.inl (.int y65)], h66) rfl rfl
              · refine S_ite (fun _ => ?_) (fun _ => ?_)
                · refine S_di 1 43 200 3 [.inr (34, 0), .inl (.int x1), .inl (.int x2), .inl (.int (h4.1 41 0 x1.toNatClampNeg))] [.inr (34, 0)] [.inr (34, 0), av0, av0] [.inr (34, 0), .inl (.int x1), .inl (.int x2), .inl (.int (h4.1 41 0 x1.toNatClampNeg))] [] h4 rfl rfl pp_200 (by decide) (s_X12_lossSet  h4) (fun y67 h68 => ?_)
                  refine S_di 5 49 156 0 [.inr (34, 0), .inl (.int x1), .inl (.int x2), .inl (.int (h4.1 41 0 x1.toNatClampNeg))] [.inl (.int (y67 &&& ((h68.1 34 0 16) ^^^ (-1 : Int32))))] [.inl (.int (y67 &&& ((h68.1 34 0 16) ^^^ (-1 : Int32)))), av0, av0] [.inr (34, 0), .inl (.int x1), .inl (.int x2), .inl (.int (h4.1 41 0 x1.toNatClampNeg))] [] h68 rfl rfl pp_156 (by decide) (s_X12_bits (y67 &&& ((h68.1 34 0 16) ^^^ (-1 : Int32))) h68) (fun y69 h70 => ?_)
                  exact S_ri 0 (50, [.inr (34, 0), .inl (.int x1), .inl (.int x2), .inl (.int (h4.1 41 0 x1.toNatClampNeg))], [.inl (.int y69)], h70) rfl rfl
                · refine S_ite (fun _ => ?_) (fun _ => ?_)
                  · refine S_di 2 53 208 3 [.inr (34, 0), .inl (.int x1), .inl (.int x2), .inl (.int (h4.1 41 0 x1.toNatClampNeg))] [.inl (.int x1), .inr (34, 0)] [.inr (34, 0), .inl (.int x1)] [.inr (34, 0), .inl (.int x1), .inl (.int x2), .inl (.int (h4.1 41 0 x1.toNatClampNeg))] [] h4 rfl rfl pp_208 (by decide) (s_X12_fallSet x1 h4) (fun y71 h72 => ?_)
                    refine S_di 0 54 156 0 [.inr (34, 0), .inl (.int x1), .inl (.int x2), .inl (.int (h4.1 41 0 x1.toNatClampNeg))] [.inl (.int y71)] [.inl (.int y71), av0, av0] [.inr (34, 0), .inl (.int x1), .inl (.int x2), .inl (.int (h4.1 41 0 x1.toNatClampNeg))] [] h72 rfl rfl pp_156 (by decide) (s_X12_bits y71 h72) (fun y73 h74 => ?_)
                    exact S_ri 0 (55, [.inr (34, 0), .inl (.int x1), .inl (.int x2), .inl (.int (h4.1 41 0 x1.toNatClampNeg))], [.inl (.int y73)], h74) rfl rfl
                  · refine S_ite (fun _ => ?_) (fun _ => ?_)
                    · refine S_di 3 59 155 0 [.inr (34, 0), .inl (.int x1), .inl (.int x2), .inl (.int (h4.1 41 0 x1.toNatClampNeg))] [.inl (.int x1), .inl (.int (h4.1 34 0 17))] [.inl (.int (h4.1 34 0 17)), .inl (.int x1)] [.inr (34, 0), .inl (.int x1), .inl (.int x2), .inl (.int (h4.1 41 0 x1.toNatClampNeg))] [] h4 rfl rfl pp_155 (by decide) (s_X12_has (h4.1 34 0 17) x1 h4) (fun y75 h76 => ?_)
                      refine S_br 1 63 61 [.inr (34, 0), .inl (.int x1), .inl (.int x2), .inl (.int (h4.1 41 0 x1.toNatClampNeg))] [] h76 rfl (fun _ => ?_) (fun _ => ?_)
                      · exact S_ri 1 (64, [.inr (34, 0), .inl (.int x1), .inl (.int x2), .inl (.int (h4.1 41 0 x1.toNatClampNeg))], [.inl (.int (0 : Int32))], h76) rfl rfl
                      · exact S_ri 2 (64, [.inr (34, 0), .inl (.int x1), .inl (.int x2), .inl (.int (h4.1 41 0 x1.toNatClampNeg))], [.inl (.int (1 : Int32))], h76) rfl rfl
                    · refine S_di 1 66 209 1 [.inr (34, 0), .inl (.int x1), .inl (.int x2), .inl (.int (h4.1 41 0 x1.toNatClampNeg))] [.inr (34, 0)] [.inr (34, 0), av0, av0] [.inr (34, 0), .inl (.int x1), .inl (.int x2), .inl (.int (h4.1 41 0 x1.toNatClampNeg))] [] h4 rfl rfl pp_209 (by decide) (s_X12_actSet  h4) (fun y77 h78 => ?_)
                      refine S_di 0 67 156 0 [.inr (34, 0), .inl (.int x1), .inl (.int x2), .inl (.int (h4.1 41 0 x1.toNatClampNeg))] [.inl (.int y77)] [.inl (.int y77), av0, av0] [.inr (34, 0), .inl (.int x1), .inl (.int x2), .inl (.int (h4.1 41 0 x1.toNatClampNeg))] [] h78 rfl rfl pp_156 (by decide) (s_X12_bits y77 h78) (fun y79 h80 => ?_)
                      exact S_ri 0 (68, [.inr (34, 0), .inl (.int x1), .inl (.int x2), .inl (.int (h4.1 41 0 x1.toNatClampNeg))], [.inl (.int y79)], h80) rfl rfl
            · refine S_di 2 33 159 0 [.inr (34, 0), .inl (.int x1), .inl (.int x2), .inl (.int (h4.1 41 0 x1.toNatClampNeg))] [.inl (.int (3 : Int32)), .inr (34, 0)] [.inr (34, 0), .inl (.int (3 : Int32))] [.inr (34, 0), .inl (.int x1), .inl (.int x2), .inl (.int (h4.1 41 0 x1.toNatClampNeg))] [] h4 rfl rfl pp_159 (by decide) (s_X12_meets (3 : Int32) h4) (fun y81 h82 => ?_)
              exact S_ri 0 (34, [.inr (34, 0), .inl (.int x1), .inl (.int x2), .inl (.int (h4.1 41 0 x1.toNatClampNeg))], [.inl (.int y81)], h82) rfl rfl
          · refine S_di 2 33 159 0 [.inr (34, 0), .inl (.int x1), .inl (.int x2), .inl (.int (h4.1 41 0 x1.toNatClampNeg))] [.inl (.int (3 : Int32)), .inr (34, 0)] [.inr (34, 0), .inl (.int (3 : Int32))] [.inr (34, 0), .inl (.int x1), .inl (.int x2), .inl (.int (h4.1 41 0 x1.toNatClampNeg))] [] h4 rfl rfl pp_159 (by decide) (s_X12_meets (3 : Int32) h4) (fun y83 h84 => ?_)
            exact S_ri 0 (34, [.inr (34, 0), .inl (.int x1), .inl (.int x2), .inl (.int (h4.1 41 0 x1.toNatClampNeg))], [.inl (.int y83)], h84) rfl rfl
theorem s_X11_trust (x1 : Int32) (x2 : Int32) (h : AH) : Sim PP (1) k_X11_trust (0, [.inr (0, 0), .inl (.int x1), .inl (.int x2), av0], [], h) (f_X11_trust x1 x2 h) fI := by
  unfold f_X11_trust
  refine S_di 2 2 137 0 [.inr (0, 0), .inl (.int x1), .inl (.int x2), av0] [.inl (.int x1), .inr (0, 0)] [.inr (0, 0), .inl (.int x1)] [.inr (0, 0), .inl (.int x1), .inl (.int x2), av0] [] h rfl rfl pp_137 (by decide) (s_X11_isReason x1 h) (fun y1 h2 => ?_)
  refine S_br 1 10 4 [.inr (0, 0), .inl (.int x1), .inl (.int x2), av0] [] h2 rfl (fun _ => ?_) (fun _ => ?_)
  · exact S_ri 1 (11, [.inr (0, 0), .inl (.int x1), .inl (.int x2), av0], [.inl (.int (-1 : Int32))], h2) rfl rfl
  · refine S_br 3 10 7 [.inr (0, 0), .inl (.int x1), .inl (.int x2), av0] [] h2 rfl (fun _ => ?_) (fun _ => ?_)
    · exact S_ri 1 (11, [.inr (0, 0), .inl (.int x1), .inl (.int x2), av0], [.inl (.int (-1 : Int32))], h2) rfl rfl
    · refine S_br 3 12 10 [.inr (0, 0), .inl (.int x1), .inl (.int x2), av0] [] h2 rfl (fun _ => ?_) (fun _ => ?_)
      · refine S_grd 5 (17, [.inr (0, 0), .inl (.int x1), .inl (.int x2), av0], [.inl (.int (h2.1 9 3 x1.toNatClampNeg))], h2) rfl (fun _ => ?_)
        refine S_grd 7 (24, [.inr (0, 0), .inl (.int x1), .inl (.int x2), .inl (.int (h2.1 9 3 x1.toNatClampNeg))], [], (hsI h2 9 3 x1.toNatClampNeg x2)) rfl (fun _ => ?_)
        exact S_ri 1 (25, [.inr (0, 0), .inl (.int x1), .inl (.int x2), .inl (.int (h2.1 9 3 x1.toNatClampNeg))], [.inl (.int (h2.1 9 3 x1.toNatClampNeg))], (hsI h2 9 3 x1.toNatClampNeg x2)) rfl rfl
      · exact S_ri 1 (11, [.inr (0, 0), .inl (.int x1), .inl (.int x2), av0], [.inl (.int (-1 : Int32))], h2) rfl rfl
theorem s_X12_trust (x1 : Int32) (x2 : Int32) (h : AH) : Sim PP (2) k_X12_trust (0, [.inr (34, 0), .inl (.int x1), .inl (.int x2), av0], [], h) (f_X12_trust x1 x2 h) fI := by
  unfold f_X12_trust
  refine S_di 2 2 190 1 [.inr (34, 0), .inl (.int x1), .inl (.int x2), av0] [.inl (.int x1), .inr (34, 0)] [.inr (34, 0), .inl (.int x1)] [.inr (34, 0), .inl (.int x1), .inl (.int x2), av0] [] h rfl rfl pp_190 (by decide) (s_X12_isReason x1 h) (fun y1 h2 => ?_)
  refine S_br 1 9 4 [.inr (34, 0), .inl (.int x1), .inl (.int x2), av0] [] h2 rfl (fun _ => ?_) (fun _ => ?_)
  · exact S_ri 1 (10, [.inr (34, 0), .inl (.int x1), .inl (.int x2), av0], [.inl (.int (-1 : Int32))], h2) rfl rfl
  · refine S_di 3 7 154 0 [.inr (34, 0), .inl (.int x1), .inl (.int x2), av0] [.inl (.int (9 : Int32)), .inl (.int (1 : Int32)), .inl (.int x2)] [.inl (.int x2), .inl (.int (1 : Int32)), .inl (.int (9 : Int32))] [.inr (34, 0), .inl (.int x1), .inl (.int x2), av0] [] h2 rfl rfl pp_154 (by decide) (s_X12_in x2 (1 : Int32) (9 : Int32) h2) (fun y3 h4 => ?_)
    refine S_br 1 9 11 [.inr (34, 0), .inl (.int x1), .inl (.int x2), av0] [] h4 rfl (fun _ => ?_) (fun _ => ?_)
    · exact S_ri 1 (10, [.inr (34, 0), .inl (.int x1), .inl (.int x2), av0], [.inl (.int (-1 : Int32))], h4) rfl rfl
    · refine S_grd 4 (15, [.inr (34, 0), .inl (.int x1), .inl (.int x2), av0], [.inl (.int (h4.1 44 0 x1.toNatClampNeg))], h4) rfl (fun _ => ?_)
      refine S_grd 6 (21, [.inr (34, 0), .inl (.int x1), .inl (.int x2), .inl (.int (h4.1 44 0 x1.toNatClampNeg))], [], (hsI h4 44 0 x1.toNatClampNeg x2)) rfl (fun _ => ?_)
      exact S_ri 1 (22, [.inr (34, 0), .inl (.int x1), .inl (.int x2), .inl (.int (h4.1 44 0 x1.toNatClampNeg))], [.inl (.int (h4.1 44 0 x1.toNatClampNeg))], (hsI h4 44 0 x1.toNatClampNeg x2)) rfl rfl
theorem s_X11_isSwitch (x0 : Int32) (h : AH) : Sim PP (0) k_X11_isSwitch (0, [.inl (.int x0)], [], h) (f_X11_isSwitch x0 h) fI := by
  unfold f_X11_isSwitch
  refine S_br 2 5 2 [.inl (.int x0)] [] h rfl (fun _ => ?_) (fun _ => ?_)
  · exact S_ri 2 (8, [.inl (.int x0)], [.inl (.int (1 : Int32))], h) rfl rfl
  · refine S_br 3 5 7 [.inl (.int x0)] [] h rfl (fun _ => ?_) (fun _ => ?_)
    · exact S_ri 2 (8, [.inl (.int x0)], [.inl (.int (1 : Int32))], h) rfl rfl
    · exact S_ri 1 (8, [.inl (.int x0)], [.inl (.int (0 : Int32))], h) rfl rfl
theorem s_X11_withBit (x0 : Int32) (x1 : Int32) (x2 : Int32) (h : AH) : Sim PP (0) k_X11_withBit (0, [.inl (.int x0), .inl (.int x1), .inl (.int x2)], [], h) (f_X11_withBit x0 x1 x2 h) fI := by
  unfold f_X11_withBit
  refine S_br 3 3 9 [.inl (.int x0), .inl (.int x1), .inl (.int x2)] [] h rfl (fun _ => ?_) (fun _ => ?_)
  · exact S_ri 6 (16, [.inl (.int x0), .inl (.int x1), .inl (.int x2)], [.inl (.int (x0 ||| ((1 : Int32) <<< (x1 &&& 31))))], h) rfl rfl
  · exact S_ri 7 (16, [.inl (.int x0), .inl (.int x1), .inl (.int x2)], [.inl (.int (x0 &&& (((1 : Int32) <<< (x1 &&& 31)) ^^^ (-1 : Int32))))], h) rfl rfl
theorem s_X11_away (x1 : Int32) (x2 : Int32) (h : AH) : Sim PP (1) k_X11_away (0, [.inr (0, 0), .inl (.int x1), .inl (.int x2), av0], [], h) (f_X11_away x1 x2 h) fI := by
  unfold f_X11_away
  refine S_di 2 2 136 0 [.inr (0, 0), .inl (.int x1), .inl (.int x2), av0] [.inl (.int x1), .inr (0, 0)] [.inr (0, 0), .inl (.int x1)] [.inr (0, 0), .inl (.int x1), .inl (.int x2), av0] [] h rfl rfl pp_136 (by decide) (s_X11_isClaim x1 h) (fun y1 h2 => ?_)
  refine S_br 1 7 4 [.inr (0, 0), .inl (.int x1), .inl (.int x2), av0] [] h2 rfl (fun _ => ?_) (fun _ => ?_)
  · exact S_ri 1 (8, [.inr (0, 0), .inl (.int x1), .inl (.int x2), av0], [.inl (.int (-1 : Int32))], h2) rfl rfl
  · refine S_di 1 5 135 0 [.inr (0, 0), .inl (.int x1), .inl (.int x2), av0] [.inl (.int x2)] [.inl (.int x2)] [.inr (0, 0), .inl (.int x1), .inl (.int x2), av0] [] h2 rfl rfl pp_135 (by decide) (s_X11_isSwitch x2 h2) (fun y3 h4 => ?_)
    refine S_br 1 7 9 [.inr (0, 0), .inl (.int x1), .inl (.int x2), av0] [] h4 rfl (fun _ => ?_) (fun _ => ?_)
    · exact S_ri 1 (8, [.inr (0, 0), .inl (.int x1), .inl (.int x2), av0], [.inl (.int (-1 : Int32))], h4) rfl rfl
    · refine S_di 4 13 139 0 [.inr (0, 0), .inl (.int x1), .inl (.int x2), av0] [.inl (.int x1), .inl (.int (h4.1 8 3 3))] [.inl (.int (h4.1 8 3 3)), .inl (.int x1)] [.inr (0, 0), .inl (.int x1), .inl (.int x2), av0] [] h4 rfl rfl pp_139 (by decide) (s_X11_bit (h4.1 8 3 3) x1 h4) (fun y5 h6 => ?_)
      refine S_di 8 22 140 0 [.inr (0, 0), .inl (.int x1), .inl (.int x2), .inl (.int y5)] [.inl (.int x2), .inl (.int x1), .inl (.int (h6.1 8 3 3)), .inr (8, 3)] [.inl (.int (h6.1 8 3 3)), .inl (.int x1), .inl (.int x2)] [.inr (0, 0), .inl (.int x1), .inl (.int x2), .inl (.int y5)] [.inr (8, 3)] h6 rfl rfl pp_140 (by decide) (s_X11_withBit (h6.1 8 3 3) x1 x2 h6) (fun y7 h8 => ?_)
      exact S_ri 2 (25, [.inr (0, 0), .inl (.int x1), .inl (.int x2), .inl (.int y5)], [.inl (.int y5)], (hsI h8 8 3 3 y7)) rfl rfl
theorem s_X12_away (x1 : Int32) (x2 : Int32) (h : AH) : Sim PP (2) k_X12_away (0, [.inr (34, 0), .inl (.int x1), .inl (.int x2), av0], [], h) (f_X12_away x1 x2 h) fI := by
  unfold f_X12_away
  refine S_di 2 2 189 1 [.inr (34, 0), .inl (.int x1), .inl (.int x2), av0] [.inl (.int x1), .inr (34, 0)] [.inr (34, 0), .inl (.int x1)] [.inr (34, 0), .inl (.int x1), .inl (.int x2), av0] [] h rfl rfl pp_189 (by decide) (s_X12_isClaim x1 h) (fun y1 h2 => ?_)
  refine S_br 1 9 4 [.inr (34, 0), .inl (.int x1), .inl (.int x2), av0] [] h2 rfl (fun _ => ?_) (fun _ => ?_)
  · exact S_ri 1 (10, [.inr (34, 0), .inl (.int x1), .inl (.int x2), av0], [.inl (.int (-1 : Int32))], h2) rfl rfl
  · refine S_di 3 7 154 0 [.inr (34, 0), .inl (.int x1), .inl (.int x2), av0] [.inl (.int (1 : Int32)), .inl (.int (0 : Int32)), .inl (.int x2)] [.inl (.int x2), .inl (.int (0 : Int32)), .inl (.int (1 : Int32))] [.inr (34, 0), .inl (.int x1), .inl (.int x2), av0] [] h2 rfl rfl pp_154 (by decide) (s_X12_in x2 (0 : Int32) (1 : Int32) h2) (fun y3 h4 => ?_)
    refine S_br 1 9 11 [.inr (34, 0), .inl (.int x1), .inl (.int x2), av0] [] h4 rfl (fun _ => ?_) (fun _ => ?_)
    · exact S_ri 1 (10, [.inr (34, 0), .inl (.int x1), .inl (.int x2), av0], [.inl (.int (-1 : Int32))], h4) rfl rfl
    · refine S_di 3 14 155 0 [.inr (34, 0), .inl (.int x1), .inl (.int x2), av0] [.inl (.int x1), .inl (.int (h4.1 34 0 16))] [.inl (.int (h4.1 34 0 16)), .inl (.int x1)] [.inr (34, 0), .inl (.int x1), .inl (.int x2), av0] [] h4 rfl rfl pp_155 (by decide) (s_X12_has (h4.1 34 0 16) x1 h4) (fun y5 h6 => ?_)
      refine S_br 1 18 16 [.inr (34, 0), .inl (.int x1), .inl (.int x2), av0] [] h6 rfl (fun _ => ?_) (fun _ => ?_)
      · refine S_br 6 24 31 [.inr (34, 0), .inl (.int x1), .inl (.int x2), .inl (.int (0 : Int32))] [.inr (34, 0)] h6 rfl (fun _ => ?_) (fun _ => ?_)
        · exact S_ri 9 (41, [.inr (34, 0), .inl (.int x1), .inl (.int x2), .inl (.int (0 : Int32))], [.inl (.int (0 : Int32))], (hsI h6 34 0 16 ((h6.1 34 0 16) ||| ((1 : Int32) <<< (x1 &&& 31))))) rfl rfl
        · exact S_ri 10 (41, [.inr (34, 0), .inl (.int x1), .inl (.int x2), .inl (.int (0 : Int32))], [.inl (.int (0 : Int32))], (hsI h6 34 0 16 ((h6.1 34 0 16) &&& (((1 : Int32) <<< (x1 &&& 31)) ^^^ (-1 : Int32))))) rfl rfl
      · refine S_br 7 24 31 [.inr (34, 0), .inl (.int x1), .inl (.int x2), .inl (.int (1 : Int32))] [.inr (34, 0)] h6 rfl (fun _ => ?_) (fun _ => ?_)
        · exact S_ri 9 (41, [.inr (34, 0), .inl (.int x1), .inl (.int x2), .inl (.int (1 : Int32))], [.inl (.int (1 : Int32))], (hsI h6 34 0 16 ((h6.1 34 0 16) ||| ((1 : Int32) <<< (x1 &&& 31))))) rfl rfl
        · exact S_ri 10 (41, [.inr (34, 0), .inl (.int x1), .inl (.int x2), .inl (.int (1 : Int32))], [.inl (.int (1 : Int32))], (hsI h6 34 0 16 ((h6.1 34 0 16) &&& (((1 : Int32) <<< (x1 &&& 31)) ^^^ (-1 : Int32))))) rfl rfl
theorem s_X11_learn (x1 : Int32) (x2 : Int32) (h : AH) : Sim PP (2) k_X11_learn (0, [.inr (0, 0), .inl (.int x1), .inl (.int x2), av0], [], h) (f_X11_learn x1 x2 h) fI := by
  unfold f_X11_learn
  refine S_di 2 2 136 0 [.inr (0, 0), .inl (.int x1), .inl (.int x2), av0] [.inl (.int x1), .inr (0, 0)] [.inr (0, 0), .inl (.int x1)] [.inr (0, 0), .inl (.int x1), .inl (.int x2), av0] [] h rfl rfl pp_136 (by decide) (s_X11_isClaim x1 h) (fun y1 h2 => ?_)
  refine S_br 1 7 4 [.inr (0, 0), .inl (.int x1), .inl (.int x2), av0] [] h2 rfl (fun _ => ?_) (fun _ => ?_)
  · exact S_ri 1 (8, [.inr (0, 0), .inl (.int x1), .inl (.int x2), av0], [.inl (.int (-1 : Int32))], h2) rfl rfl
  · refine S_di 1 5 135 0 [.inr (0, 0), .inl (.int x1), .inl (.int x2), av0] [.inl (.int x2)] [.inl (.int x2)] [.inr (0, 0), .inl (.int x1), .inl (.int x2), av0] [] h2 rfl rfl pp_135 (by decide) (s_X11_isSwitch x2 h2) (fun y3 h4 => ?_)
    refine S_br 1 7 9 [.inr (0, 0), .inl (.int x1), .inl (.int x2), av0] [] h4 rfl (fun _ => ?_) (fun _ => ?_)
    · exact S_ri 1 (8, [.inr (0, 0), .inl (.int x1), .inl (.int x2), av0], [.inl (.int (-1 : Int32))], h4) rfl rfl
    · refine S_di 3 12 51 1 [.inr (0, 0), .inl (.int x1), .inl (.int x2), av0] [.inl (.int (4 : Int32)), .inr (12, 0)] [.inr (12, 0), .inl (.int (4 : Int32))] [.inr (0, 0), .inl (.int x1), .inl (.int x2), av0] [] h4 rfl rfl pp_51 (by decide) (s_X6_bitsOf 0 (4 : Int32) h4) (fun y5 h6 => ?_)
      refine S_di 1 14 138 0 [.inr (0, 0), .inl (.int x1), .inl (.int x2), av0] [.inl (.int x1), .inl (.int y5)] [.inl (.int y5), .inl (.int x1)] [.inr (0, 0), .inl (.int x1), .inl (.int x2), av0] [] h6 rfl rfl pp_138 (by decide) (s_X11_has y5 x1 h6) (fun y7 h8 => ?_)
      refine S_br 1 16 20 [.inr (0, 0), .inl (.int x1), .inl (.int x2), av0] [] h8 rfl (fun _ => ?_) (fun _ => ?_)
      · refine S_di 2 18 131 0 [.inr (0, 0), .inl (.int x1), .inl (.int x2), av0] [.inl (.int (3 : Int32)), .inr (0, 0)] [.inr (0, 0), .inl (.int (3 : Int32))] [.inr (0, 0), .inl (.int x1), .inl (.int x2), av0] [] h8 rfl rfl pp_131 (by decide) (s_X11_refuse (3 : Int32) h8) (fun y9 h10 => ?_)
        exact S_ri 0 (19, [.inr (0, 0), .inl (.int x1), .inl (.int x2), av0], [.inl (.int y9)], h10) rfl rfl
      · refine S_di 4 24 139 0 [.inr (0, 0), .inl (.int x1), .inl (.int x2), av0] [.inl (.int x1), .inl (.int (h8.1 8 3 4))] [.inl (.int (h8.1 8 3 4)), .inl (.int x1)] [.inr (0, 0), .inl (.int x1), .inl (.int x2), av0] [] h8 rfl rfl pp_139 (by decide) (s_X11_bit (h8.1 8 3 4) x1 h8) (fun y11 h12 => ?_)
        refine S_di 8 33 140 0 [.inr (0, 0), .inl (.int x1), .inl (.int x2), .inl (.int y11)] [.inl (.int x2), .inl (.int x1), .inl (.int (h12.1 8 3 4)), .inr (8, 3)] [.inl (.int (h12.1 8 3 4)), .inl (.int x1), .inl (.int x2)] [.inr (0, 0), .inl (.int x1), .inl (.int x2), .inl (.int y11)] [.inr (8, 3)] h12 rfl rfl pp_140 (by decide) (s_X11_withBit (h12.1 8 3 4) x1 x2 h12) (fun y13 h14 => ?_)
        exact S_ri 2 (36, [.inr (0, 0), .inl (.int x1), .inl (.int x2), .inl (.int y11)], [.inl (.int y11)], (hsI h14 8 3 4 y13)) rfl rfl
theorem s_X12_learn (x1 : Int32) (x2 : Int32) (h : AH) : Sim PP (2) k_X12_learn (0, [.inr (34, 0), .inl (.int x1), .inl (.int x2), av0], [], h) (f_X12_learn x1 x2 h) fI := by
  unfold f_X12_learn
  refine S_di 2 2 189 1 [.inr (34, 0), .inl (.int x1), .inl (.int x2), av0] [.inl (.int x1), .inr (34, 0)] [.inr (34, 0), .inl (.int x1)] [.inr (34, 0), .inl (.int x1), .inl (.int x2), av0] [] h rfl rfl pp_189 (by decide) (s_X12_isClaim x1 h) (fun y1 h2 => ?_)
  refine S_br 1 9 4 [.inr (34, 0), .inl (.int x1), .inl (.int x2), av0] [] h2 rfl (fun _ => ?_) (fun _ => ?_)
  · exact S_ri 1 (10, [.inr (34, 0), .inl (.int x1), .inl (.int x2), av0], [.inl (.int (-1 : Int32))], h2) rfl rfl
  · refine S_di 3 7 154 0 [.inr (34, 0), .inl (.int x1), .inl (.int x2), av0] [.inl (.int (1 : Int32)), .inl (.int (0 : Int32)), .inl (.int x2)] [.inl (.int x2), .inl (.int (0 : Int32)), .inl (.int (1 : Int32))] [.inr (34, 0), .inl (.int x1), .inl (.int x2), av0] [] h2 rfl rfl pp_154 (by decide) (s_X12_in x2 (0 : Int32) (1 : Int32) h2) (fun y3 h4 => ?_)
    refine S_br 1 9 11 [.inr (34, 0), .inl (.int x1), .inl (.int x2), av0] [] h4 rfl (fun _ => ?_) (fun _ => ?_)
    · exact S_ri 1 (10, [.inr (34, 0), .inl (.int x1), .inl (.int x2), av0], [.inl (.int (-1 : Int32))], h4) rfl rfl
    · refine S_grd 4 (15, [.inr (34, 0), .inl (.int x1), .inl (.int x2), av0], [.inl (.int (h4.1 41 0 x1.toNatClampNeg))], h4) rfl (fun _ => ?_)
      refine S_br 2 21 17 [.inr (34, 0), .inl (.int x1), .inl (.int x2), av0] [] h4 rfl (fun _ => ?_) (fun _ => ?_)
      · refine S_di 3 24 155 0 [.inr (34, 0), .inl (.int x1), .inl (.int x2), av0] [.inl (.int x1), .inl (.int (h4.1 34 0 17))] [.inl (.int (h4.1 34 0 17)), .inl (.int x1)] [.inr (34, 0), .inl (.int x1), .inl (.int x2), av0] [] h4 rfl rfl pp_155 (by decide) (s_X12_has (h4.1 34 0 17) x1 h4) (fun y5 h6 => ?_)
        refine S_br 1 28 26 [.inr (34, 0), .inl (.int x1), .inl (.int x2), av0] [] h6 rfl (fun _ => ?_) (fun _ => ?_)
        · refine S_br 6 34 41 [.inr (34, 0), .inl (.int x1), .inl (.int x2), .inl (.int (0 : Int32))] [.inr (34, 0)] h6 rfl (fun _ => ?_) (fun _ => ?_)
          · exact S_ri 9 (51, [.inr (34, 0), .inl (.int x1), .inl (.int x2), .inl (.int (0 : Int32))], [.inl (.int (0 : Int32))], (hsI h6 34 0 17 ((h6.1 34 0 17) ||| ((1 : Int32) <<< (x1 &&& 31))))) rfl rfl
          · exact S_ri 10 (51, [.inr (34, 0), .inl (.int x1), .inl (.int x2), .inl (.int (0 : Int32))], [.inl (.int (0 : Int32))], (hsI h6 34 0 17 ((h6.1 34 0 17) &&& (((1 : Int32) <<< (x1 &&& 31)) ^^^ (-1 : Int32))))) rfl rfl
        · refine S_br 7 34 41 [.inr (34, 0), .inl (.int x1), .inl (.int x2), .inl (.int (1 : Int32))] [.inr (34, 0)] h6 rfl (fun _ => ?_) (fun _ => ?_)
          · exact S_ri 9 (51, [.inr (34, 0), .inl (.int x1), .inl (.int x2), .inl (.int (1 : Int32))], [.inl (.int (1 : Int32))], (hsI h6 34 0 17 ((h6.1 34 0 17) ||| ((1 : Int32) <<< (x1 &&& 31))))) rfl rfl
          · exact S_ri 10 (51, [.inr (34, 0), .inl (.int x1), .inl (.int x2), .inl (.int (1 : Int32))], [.inl (.int (1 : Int32))], (hsI h6 34 0 17 ((h6.1 34 0 17) &&& (((1 : Int32) <<< (x1 &&& 31)) ^^^ (-1 : Int32))))) rfl rfl
      · refine S_di 2 19 159 0 [.inr (34, 0), .inl (.int x1), .inl (.int x2), av0] [.inl (.int (3 : Int32)), .inr (34, 0)] [.inr (34, 0), .inl (.int (3 : Int32))] [.inr (34, 0), .inl (.int x1), .inl (.int x2), av0] [] h4 rfl rfl pp_159 (by decide) (s_X12_meets (3 : Int32) h4) (fun y7 h8 => ?_)
        exact S_ri 0 (20, [.inr (34, 0), .inl (.int x1), .inl (.int x2), av0], [.inl (.int y7)], h8) rfl rfl
theorem s_X11_law (x1 : Int32) (h : AH) : Sim PP (1) k_X11_law (0, [.inr (0, 0), .inl (.int x1), av0], [], h) (f_X11_law x1 h) fI := by
  unfold f_X11_law
  refine S_di 1 1 135 0 [.inr (0, 0), .inl (.int x1), av0] [.inl (.int x1)] [.inl (.int x1)] [.inr (0, 0), .inl (.int x1), av0] [] h rfl rfl pp_135 (by decide) (s_X11_isSwitch x1 h) (fun y1 h2 => ?_)
  refine S_br 1 3 5 [.inr (0, 0), .inl (.int x1), av0] [] h2 rfl (fun _ => ?_) (fun _ => ?_)
  · exact S_ri 1 (4, [.inr (0, 0), .inl (.int x1), av0], [.inl (.int (-1 : Int32))], h2) rfl rfl
  · exact S_ri 9 (14, [.inr (0, 0), .inl (.int x1), .inl (.int (h2.1 8 3 5))], [.inl (.int (h2.1 8 3 5))], (hsI h2 8 3 5 x1)) rfl rfl
theorem s_X12_law (x1 : Int32) (h : AH) : Sim PP (1) k_X12_law (0, [.inr (34, 0), .inl (.int x1), av0], [], h) (f_X12_law x1 h) fI := by
  unfold f_X12_law
  refine S_di 3 3 154 0 [.inr (34, 0), .inl (.int x1), av0] [.inl (.int (1 : Int32)), .inl (.int (0 : Int32)), .inl (.int x1)] [.inl (.int x1), .inl (.int (0 : Int32)), .inl (.int (1 : Int32))] [.inr (34, 0), .inl (.int x1), av0] [] h rfl rfl pp_154 (by decide) (s_X12_in x1 (0 : Int32) (1 : Int32) h) (fun y1 h2 => ?_)
  refine S_br 1 5 7 [.inr (34, 0), .inl (.int x1), av0] [] h2 rfl (fun _ => ?_) (fun _ => ?_)
  · exact S_ri 1 (6, [.inr (34, 0), .inl (.int x1), av0], [.inl (.int (-1 : Int32))], h2) rfl rfl
  · exact S_ri 7 (14, [.inr (34, 0), .inl (.int x1), .inl (.int (h2.1 34 0 18))], [.inl (.int (h2.1 34 0 18))], (hsI h2 34 0 18 x1)) rfl rfl
theorem s_X7_open (r0 : Nat) (x1 : Int32) (h : AH) : Sim PP (0) k_X7_open (0, [.inr (8, r0), .inl (.int x1)], [], h) (f_X7_open r0 x1 h) fV := by
  unfold f_X7_open
  refine S_gt 5 (c := inb (0 : Int32) 40 = true) (5, [.inr (8, r0), .inl (.int x1)], [], (hsI h 10 r0 (0 : Int32).toNatClampNeg x1)) rfl (by decide) ?_
  exact S_rv 3 (8, [.inr (8, r0), .inl (.int x1)], [], (hsI (hsI h 10 r0 (0 : Int32).toNatClampNeg x1) 8 r0 2 (1 : Int32))) rfl rfl
theorem s_X7_place (r0 : Nat) (h : AH) : Sim PP (0) k_X7_place (0, [.inr (8, r0)], [], h) (f_X7_place r0 h) fI := by
  unfold f_X7_place
  refine S_br 3 17 3 [.inr (8, r0)] [] h rfl (fun _ => ?_) (fun _ => ?_)
  · exact S_ri 1 (18, [.inr (8, r0)], [.inl (.int (0 : Int32))], h) rfl rfl
  · refine S_br 6 17 9 [.inr (8, r0)] [] h rfl (fun _ => ?_) (fun _ => ?_)
    · exact S_ri 1 (18, [.inr (8, r0)], [.inl (.int (0 : Int32))], h) rfl rfl
    · refine S_grd 7 (16, [.inr (8, r0)], [.inl (.int (h.1 10 r0 ((h.1 8 r0 2) - (1 : Int32)).toNatClampNeg))], h) rfl (fun _ => ?_)
      exact S_ri 1 (18, [.inr (8, r0)], [.inl (.int (h.1 10 r0 ((h.1 8 r0 2) - (1 : Int32)).toNatClampNeg))], h) rfl rfl
theorem s_X0_isOver (x1 : Int32) (h : AH) : Sim PP (3) k_X0_isOver (0, [.inr (18, 0), .inl (.int x1)], [], h) (f_X0_isOver x1 h) fI := by
  unfold f_X0_isOver
  refine S_di 1 1 2 2 [.inr (18, 0), .inl (.int x1)] [.inr (18, 0)] [.inr (18, 0), av0, av0] [.inr (18, 0), .inl (.int x1)] [] h rfl rfl pp_2 (by decide) (s_X0_lossBits  h) (fun y1 h2 => ?_)
  refine S_di 3 5 51 1 [.inr (18, 0), .inl (.int x1)] [.inl (.int (1 : Int32)), .inr (12, 0), .inl (.int y1)] [.inr (12, 0), .inl (.int (1 : Int32))] [.inr (18, 0), .inl (.int x1)] [.inl (.int y1)] h2 rfl rfl pp_51 (by decide) (s_X6_bitsOf 0 (1 : Int32) h2) (fun y3 h4 => ?_)
  refine S_di 2 8 138 0 [.inr (18, 0), .inl (.int x1)] [.inl (.int x1), .inl (.int (y1 ||| y3))] [.inl (.int (y1 ||| y3)), .inl (.int x1)] [.inr (18, 0), .inl (.int x1)] [] h4 rfl rfl pp_138 (by decide) (s_X11_has (y1 ||| y3) x1 h4) (fun y5 h6 => ?_)
  exact S_ri 0 (9, [.inr (18, 0), .inl (.int x1)], [.inl (.int y5)], h6) rfl rfl
theorem s_X11_overHere  (h : AH) : Sim PP (4) k_X11_overHere (0, [.inr (0, 0)], [], h) (f_X11_overHere  h) fI := by
  unfold f_X11_overHere
  refine S_di 4 4 58 0 [.inr (0, 0)] [.inr (8, 3), .inr (18, 0)] [.inr (8, 3)] [.inr (0, 0)] [.inr (18, 0)] h rfl rfl pp_58 (by decide) (s_X7_place 3 h) (fun y1 h2 => ?_)
  refine S_di 0 5 3 3 [.inr (0, 0)] [.inl (.int y1), .inr (18, 0)] [.inr (18, 0), .inl (.int y1)] [.inr (0, 0)] [] h2 rfl rfl pp_3 (by decide) (s_X0_isOver y1 h2) (fun y3 h4 => ?_)
  refine S_br 1 9 7 [.inr (0, 0)] [] h4 rfl (fun _ => ?_) (fun _ => ?_)
  · exact S_ri 1 (10, [.inr (0, 0)], [.inl (.int (0 : Int32))], h4) rfl rfl
  · exact S_ri 2 (10, [.inr (0, 0)], [.inl (.int (1 : Int32))], h4) rfl rfl
theorem s_X11_begin (x1 : Int32) (h : AH) : Sim PP (5) k_X11_begin (0, [.inr (0, 0), .inl (.int x1)], [], h) (f_X11_begin x1 h) fI := by
  unfold f_X11_begin
  refine S_di 2 2 136 0 [.inr (0, 0), .inl (.int x1)] [.inl (.int x1), .inr (0, 0)] [.inr (0, 0), .inl (.int x1)] [.inr (0, 0), .inl (.int x1)] [] h rfl rfl pp_136 (by decide) (s_X11_isClaim x1 h) (fun y1 h2 => ?_)
  refine S_br 1 4 6 [.inr (0, 0), .inl (.int x1)] [] h2 rfl (fun _ => ?_) (fun _ => ?_)
  · exact S_ri 1 (5, [.inr (0, 0), .inl (.int x1)], [.inl (.int (-1 : Int32))], h2) rfl rfl
  · refine S_di 4 10 138 0 [.inr (0, 0), .inl (.int x1)] [.inl (.int x1), .inl (.int (h2.1 8 3 3))] [.inl (.int (h2.1 8 3 3)), .inl (.int x1)] [.inr (0, 0), .inl (.int x1)] [] h2 rfl rfl pp_138 (by decide) (s_X11_has (h2.1 8 3 3) x1 h2) (fun y3 h4 => ?_)
    refine S_br 1 14 12 [.inr (0, 0), .inl (.int x1)] [] h4 rfl (fun _ => ?_) (fun _ => ?_)
    · refine S_dv 3 17 59 0 [.inr (0, 0), .inl (.int x1)] [.inl (.int x1), .inr (8, 3)] [.inr (8, 3), .inl (.int x1)] [.inr (0, 0), .inl (.int x1)] [] h4 rfl rfl pp_59 (by decide) (s_X7_open 3 x1 h4) (fun _ h6 => ?_)
      refine S_di 1 19 142 4 [.inr (0, 0), .inl (.int x1)] [.inr (0, 0)] [.inr (0, 0)] [.inr (0, 0), .inl (.int x1)] [] h6 rfl rfl pp_142 (by decide) (s_X11_overHere  h6) (fun y7 h8 => ?_)
      exact S_ri 0 (20, [.inr (0, 0), .inl (.int x1)], [.inl (.int y7)], h8) rfl rfl
    · exact S_ri 1 (13, [.inr (0, 0), .inl (.int x1)], [.inl (.int (-4 : Int32))], h4) rfl rfl
theorem s_X12_isEnd (x1 : Int32) (h : AH) : Sim PP (1) k_X12_isEnd (0, [.inr (34, 0), .inl (.int x1)], [], h) (f_X12_isEnd x1 h) fI := by
  unfold f_X12_isEnd
  refine S_grd 4 (4, [.inr (34, 0), .inl (.int x1)], [.inl (.int (h.1 41 0 x1.toNatClampNeg))], h) rfl (fun _ => ?_)
  refine S_di 0 4 181 0 [.inr (34, 0), .inl (.int x1)] [.inl (.int (h.1 41 0 x1.toNatClampNeg))] [.inl (.int (h.1 41 0 x1.toNatClampNeg))] [.inr (34, 0), .inl (.int x1)] [] h rfl rfl pp_181 (by decide) (s_X12_isEndKind (h.1 41 0 x1.toNatClampNeg) h) (fun y1 h2 => ?_)
  exact S_ri 0 (5, [.inr (34, 0), .inl (.int x1)], [.inl (.int y1)], h2) rfl rfl
theorem s_X12_isOver (x1 : Int32) (h : AH) : Sim PP (3) k_X12_isOver (0, [.inr (34, 0), .inl (.int x1)], [], h) (f_X12_isOver x1 h) fI := by
  unfold f_X12_isOver
  refine S_di 2 2 193 1 [.inr (34, 0), .inl (.int x1)] [.inl (.int x1), .inr (34, 0)] [.inr (34, 0), .inl (.int x1)] [.inr (34, 0), .inl (.int x1)] [] h rfl rfl pp_193 (by decide) (s_X12_isEnd x1 h) (fun y1 h2 => ?_)
  refine S_br 1 4 8 [.inr (34, 0), .inl (.int x1)] [] h2 rfl (fun _ => ?_) (fun _ => ?_)
  · refine S_di 2 6 199 2 [.inr (34, 0), .inl (.int x1)] [.inl (.int x1), .inr (34, 0)] [.inr (34, 0), .inl (.int x1)] [.inr (34, 0), .inl (.int x1)] [] h2 rfl rfl pp_199 (by decide) (s_X12_isAtLoss x1 h2) (fun y3 h4 => ?_)
    refine S_br 1 10 8 [.inr (34, 0), .inl (.int x1)] [] h4 rfl (fun _ => ?_) (fun _ => ?_)
    · exact S_ri 1 (11, [.inr (34, 0), .inl (.int x1)], [.inl (.int (0 : Int32))], h4) rfl rfl
    · exact S_ri 2 (11, [.inr (34, 0), .inl (.int x1)], [.inl (.int (1 : Int32))], h4) rfl rfl
  · exact S_ri 2 (11, [.inr (34, 0), .inl (.int x1)], [.inl (.int (1 : Int32))], h2) rfl rfl
theorem s_X12_begin (x1 : Int32) (h : AH) : Sim PP (4) k_X12_begin (0, [.inr (34, 0), .inl (.int x1)], [], h) (f_X12_begin x1 h) fI := by
  unfold f_X12_begin
  refine S_di 2 2 189 1 [.inr (34, 0), .inl (.int x1)] [.inl (.int x1), .inr (34, 0)] [.inr (34, 0), .inl (.int x1)] [.inr (34, 0), .inl (.int x1)] [] h rfl rfl pp_189 (by decide) (s_X12_isClaim x1 h) (fun y1 h2 => ?_)
  refine S_br 1 4 6 [.inr (34, 0), .inl (.int x1)] [] h2 rfl (fun _ => ?_) (fun _ => ?_)
  · exact S_ri 1 (5, [.inr (34, 0), .inl (.int x1)], [.inl (.int (-1 : Int32))], h2) rfl rfl
  · refine S_di 3 9 155 0 [.inr (34, 0), .inl (.int x1)] [.inl (.int x1), .inl (.int (h2.1 34 0 16))] [.inl (.int (h2.1 34 0 16)), .inl (.int x1)] [.inr (34, 0), .inl (.int x1)] [] h2 rfl rfl pp_155 (by decide) (s_X12_has (h2.1 34 0 16) x1 h2) (fun y3 h4 => ?_)
    refine S_br 1 13 11 [.inr (34, 0), .inl (.int x1)] [] h4 rfl (fun _ => ?_) (fun _ => ?_)
    · refine S_gt 8 (c := inb (0 : Int32) 41 = true) (21, [.inr (34, 0), .inl (.int x1)], [], (hsI (hsI h4 34 0 27 (1 : Int32)) 49 0 (0 : Int32).toNatClampNeg x1)) rfl (by decide) ?_
      refine S_di 2 23 216 3 [.inr (34, 0), .inl (.int x1)] [.inl (.int x1), .inr (34, 0)] [.inr (34, 0), .inl (.int x1)] [.inr (34, 0), .inl (.int x1)] [] (hsI (hsI h4 34 0 27 (1 : Int32)) 49 0 (0 : Int32).toNatClampNeg x1) rfl rfl pp_216 (by decide) (s_X12_isOver x1 (hsI (hsI h4 34 0 27 (1 : Int32)) 49 0 (0 : Int32).toNatClampNeg x1)) (fun y5 h6 => ?_)
      refine S_br 1 27 25 [.inr (34, 0), .inl (.int x1)] [] h6 rfl (fun _ => ?_) (fun _ => ?_)
      · exact S_ri 1 (28, [.inr (34, 0), .inl (.int x1)], [.inl (.int (0 : Int32))], h6) rfl rfl
      · exact S_ri 2 (28, [.inr (34, 0), .inl (.int x1)], [.inl (.int (1 : Int32))], h6) rfl rfl
    · exact S_ri 1 (12, [.inr (34, 0), .inl (.int x1)], [.inl (.int (-4 : Int32))], h4) rfl rfl
theorem s_X7_hasEvening (r0 : Nat) (h : AH) : Sim PP (0) k_X7_hasEvening (0, [.inr (8, r0)], [], h) (f_X7_hasEvening r0 h) fI := by
  unfold f_X7_hasEvening
  refine S_br 3 5 3 [.inr (8, r0)] [] h rfl (fun _ => ?_) (fun _ => ?_)
  · exact S_ri 1 (6, [.inr (8, r0)], [.inl (.int (0 : Int32))], h) rfl rfl
  · exact S_ri 2 (6, [.inr (8, r0)], [.inl (.int (1 : Int32))], h) rfl rfl
theorem sb_X7_barredBits_4  (rc : Nat → Int32 → Int32 → AH → Option (Int32 × AH)) (r0 : Nat) (x1 : Int32) (x2 : Int32) (hrc : ∀ (x1 : Int32) (x2 : Int32) (h : AH), Sim PP (0) k_X7_barredBits (4, [.inr (8, r0), .inl (.int x1), .inl (.int x2)], [], h) (rc r0 x1 x2 h) (fE PP (0) k_X7_barredBits 19 (fun v => [.inr (8, r0), .inl (.int v), av0])))  (h : AH) : Sim PP (0) k_X7_barredBits (4, [.inr (8, r0), .inl (.int x1), .inl (.int x2)], [], h) (b_X7_barredBits_4 rc r0 x1 x2 h) (fE PP (0) k_X7_barredBits 19 (fun v => [.inr (8, r0), .inl (.int v), av0])) := by
  unfold b_X7_barredBits_4
  refine S_br 4 19 8 [.inr (8, r0), .inl (.int x1), .inl (.int x2)] [] h rfl (fun _ => ?_) (fun _ => ?_)
  · exact S_ex x1 (fun v => [.inr (8, r0), .inl (.int v), av0]) rfl
  · refine S_grd 6 (14, [.inr (8, r0), .inl (.int x1), .inl (.int x2)], [.inl (.int (h.1 10 r0 x2.toNatClampNeg)), .inl (.int (1 : Int32)), .inl (.int x1)], h) rfl (fun _ => ?_)
    refine S_blk 5 (4, [.inr (8, r0), .inl (.int (x1 ||| ((1 : Int32) <<< ((h.1 10 r0 x2.toNatClampNeg) &&& 31)))), .inl (.int (x2 + (1 : Int32)))], [], h) rfl ?_
    refine S_nrm [.inr (8, r0), .inl (.int (x1 ||| ((1 : Int32) <<< ((h.1 10 r0 x2.toNatClampNeg) &&& 31)))), .inl (.int (x2 + (1 : Int32)))] rfl ?_
    exact hrc (x1 ||| ((1 : Int32) <<< ((h.1 10 r0 x2.toNatClampNeg) &&& 31))) (x2 + (1 : Int32)) h
theorem sl_X7_barredBits_4    (r0 : Nat) : ∀ (F : Nat) (x1 : Int32) (x2 : Int32) (h : AH), Sim PP (0) k_X7_barredBits (4, [.inr (8, r0), .inl (.int x1), .inl (.int x2)], [], h) (l_X7_barredBits_4 F r0 x1 x2 h) (fE PP (0) k_X7_barredBits 19 (fun v => [.inr (8, r0), .inl (.int v), av0])) := by
  intro F
  induction F with
  | zero => intro x1 x2 h; exact S_none
  | succ F ih => intro x1 x2 h; exact sb_X7_barredBits_4 (l_X7_barredBits_4 F) r0 x1 x2 ih h
theorem sc_X7_barredBits_19    (r0 : Nat) (x1 : Int32)  (h : AH) : Sim PP (0) k_X7_barredBits (19, [.inr (8, r0), .inl (.int x1), av0], [], h) (c_X7_barredBits_19  r0 x1 h) fI := by
  unfold c_X7_barredBits_19
  refine S_br 4 23 25 [.inr (8, r0), .inl (.int x1), av0] [] h rfl (fun _ => ?_) (fun _ => ?_)
  · exact S_ri 2 (26, [.inr (8, r0), .inl (.int x1), av0], [.inl (.int x1)], h) rfl rfl
  · exact S_ri 1 (26, [.inr (8, r0), .inl (.int x1), av0], [.inl (.int (0 : Int32))], h) rfl rfl
theorem s_X7_barredBits (r0 : Nat) (h : AH) : Sim PP (0) k_X7_barredBits (0, [.inr (8, r0), av0, av0], [], h) (f_X7_barredBits r0 h) fI := by
  unfold f_X7_barredBits
  refine S_blk 4 (4, [.inr (8, r0), .inl (.int (0 : Int32)), .inl (.int (0 : Int32))], [], h) rfl ?_
  refine S_nrm [.inr (8, r0), .inl (.int (0 : Int32)), .inl (.int (0 : Int32))] rfl ?_
  refine S_lp 19 (fun v => [.inr (8, r0), .inl (.int v), av0]) (sl_X7_barredBits_4 r0 FU (0 : Int32) (0 : Int32) h) (fun v h => ?_)
  exact sc_X7_barredBits_19 r0 v h
theorem sb_X0_openReasons_4  (rc : Int32 → Int32 → Int32 → Int32 → AH → Option (Int32 × AH)) (x1 : Int32) (x2 : Int32) (x3 : Int32) (x4 : Int32) (hrc : ∀ (x3 : Int32) (x4 : Int32) (h : AH), Sim PP (2) k_X0_openReasons (4, [.inr (18, 0), .inl (.int x1), .inl (.int x2), .inl (.int x3), .inl (.int x4), av0], [], h) (rc x1 x2 x3 x4 h) (fE PP (2) k_X0_openReasons 46 (fun v => [av0, av0, av0, .inl (.int v), av0, av0])))  (h : AH) : Sim PP (2) k_X0_openReasons (4, [.inr (18, 0), .inl (.int x1), .inl (.int x2), .inl (.int x3), .inl (.int x4), av0], [], h) (b_X0_openReasons_4 rc x1 x2 x3 x4 h) (fE PP (2) k_X0_openReasons 46 (fun v => [av0, av0, av0, .inl (.int v), av0, av0])) := by
  unfold b_X0_openReasons_4
  refine S_br 5 46 9 [.inr (18, 0), .inl (.int x1), .inl (.int x2), .inl (.int x3), .inl (.int x4), av0] [] h rfl (fun _ => ?_) (fun _ => ?_)
  · exact S_ex x3 (fun v => [av0, av0, av0, .inl (.int v), av0, av0]) rfl
  · refine S_grd 5 (14, [.inr (18, 0), .inl (.int x1), .inl (.int x2), .inl (.int x3), .inl (.int x4), av0], [.inl (.int (h.1 15 0 x4.toNatClampNeg))], h) rfl (fun _ => ?_)
    refine S_br 2 16 32 [.inr (18, 0), .inl (.int x1), .inl (.int x2), .inl (.int x3), .inl (.int x4), av0] [] h rfl (fun _ => ?_) (fun _ => ?_)
    · refine S_di 2 18 0 1 [.inr (18, 0), .inl (.int x1), .inl (.int x2), .inl (.int x3), .inl (.int x4), av0] [.inl (.int x4), .inr (18, 0)] [.inr (18, 0), .inl (.int x4)] [.inr (18, 0), .inl (.int x1), .inl (.int x2), .inl (.int x3), .inl (.int x4), av0] [] h rfl rfl pp_0 (by decide) (s_X0_isUsable x4 h) (fun y1 h2 => ?_)
      refine S_br 1 32 20 [.inr (18, 0), .inl (.int x1), .inl (.int x2), .inl (.int x3), .inl (.int x4), av0] [] h2 rfl (fun _ => ?_) (fun _ => ?_)
      · refine S_bt 5 (c := (0 : Int32) = 0) 41 37 [.inr (18, 0), .inl (.int x1), .inl (.int x2), .inl (.int x3), .inl (.int x4), .inl (.int (0 : Int32))] [.inl (.int x3)] h2 rfl (by decide) ?_
        refine S_blk 5 (4, [.inr (18, 0), .inl (.int x1), .inl (.int x2), .inl (.int (x3 ||| (0 : Int32))), .inl (.int (x4 + (1 : Int32))), .inl (.int (0 : Int32))], [], h2) rfl ?_
        refine S_nrm [.inr (18, 0), .inl (.int x1), .inl (.int x2), .inl (.int (x3 ||| (0 : Int32))), .inl (.int (x4 + (1 : Int32))), av0] rfl ?_
        exact hrc (x3 ||| (0 : Int32)) (x4 + (1 : Int32)) h2
      · refine S_grd 5 (25, [.inr (18, 0), .inl (.int x1), .inl (.int x2), .inl (.int x3), .inl (.int x4), av0], [.inl (.int (h2.1 16 0 x4.toNatClampNeg))], h2) rfl (fun _ => ?_)
        refine S_br 5 32 30 [.inr (18, 0), .inl (.int x1), .inl (.int x2), .inl (.int x3), .inl (.int x4), av0] [] h2 rfl (fun _ => ?_) (fun _ => ?_)
        · refine S_bt 5 (c := (0 : Int32) = 0) 41 37 [.inr (18, 0), .inl (.int x1), .inl (.int x2), .inl (.int x3), .inl (.int x4), .inl (.int (0 : Int32))] [.inl (.int x3)] h2 rfl (by decide) ?_
          refine S_blk 5 (4, [.inr (18, 0), .inl (.int x1), .inl (.int x2), .inl (.int (x3 ||| (0 : Int32))), .inl (.int (x4 + (1 : Int32))), .inl (.int (0 : Int32))], [], h2) rfl ?_
          refine S_nrm [.inr (18, 0), .inl (.int x1), .inl (.int x2), .inl (.int (x3 ||| (0 : Int32))), .inl (.int (x4 + (1 : Int32))), av0] rfl ?_
          exact hrc (x3 ||| (0 : Int32)) (x4 + (1 : Int32)) h2
        · refine S_bf 6 (c := (1 : Int32) = 0) 41 37 [.inr (18, 0), .inl (.int x1), .inl (.int x2), .inl (.int x3), .inl (.int x4), .inl (.int (1 : Int32))] [.inl (.int x3)] h2 rfl (by decide) ?_
          refine S_blk 8 (4, [.inr (18, 0), .inl (.int x1), .inl (.int x2), .inl (.int (x3 ||| ((1 : Int32) <<< (x4 &&& 31)))), .inl (.int (x4 + (1 : Int32))), .inl (.int (1 : Int32))], [], h2) rfl ?_
          refine S_nrm [.inr (18, 0), .inl (.int x1), .inl (.int x2), .inl (.int (x3 ||| ((1 : Int32) <<< (x4 &&& 31)))), .inl (.int (x4 + (1 : Int32))), av0] rfl ?_
          exact hrc (x3 ||| ((1 : Int32) <<< (x4 &&& 31))) (x4 + (1 : Int32)) h2
    · refine S_bt 5 (c := (0 : Int32) = 0) 41 37 [.inr (18, 0), .inl (.int x1), .inl (.int x2), .inl (.int x3), .inl (.int x4), .inl (.int (0 : Int32))] [.inl (.int x3)] h rfl (by decide) ?_
      refine S_blk 5 (4, [.inr (18, 0), .inl (.int x1), .inl (.int x2), .inl (.int (x3 ||| (0 : Int32))), .inl (.int (x4 + (1 : Int32))), .inl (.int (0 : Int32))], [], h) rfl ?_
      refine S_nrm [.inr (18, 0), .inl (.int x1), .inl (.int x2), .inl (.int (x3 ||| (0 : Int32))), .inl (.int (x4 + (1 : Int32))), av0] rfl ?_
      exact hrc (x3 ||| (0 : Int32)) (x4 + (1 : Int32)) h
theorem sl_X0_openReasons_4    (x1 : Int32) (x2 : Int32) : ∀ (F : Nat) (x3 : Int32) (x4 : Int32) (h : AH), Sim PP (2) k_X0_openReasons (4, [.inr (18, 0), .inl (.int x1), .inl (.int x2), .inl (.int x3), .inl (.int x4), av0], [], h) (l_X0_openReasons_4 F x1 x2 x3 x4 h) (fE PP (2) k_X0_openReasons 46 (fun v => [av0, av0, av0, .inl (.int v), av0, av0])) := by
  intro F
  induction F with
  | zero => intro x3 x4 h; exact S_none
  | succ F ih => intro x3 x4 h; exact sb_X0_openReasons_4 (l_X0_openReasons_4 F) x1 x2 x3 x4 ih h
theorem sc_X0_openReasons_46    (x3 : Int32)  (h : AH) : Sim PP (2) k_X0_openReasons (46, [av0, av0, av0, .inl (.int x3), av0, av0], [], h) (c_X0_openReasons_46  x3 h) fI := by
  unfold c_X0_openReasons_46
  exact S_ri 1 (47, [av0, av0, av0, .inl (.int x3), av0, av0], [.inl (.int x3)], h) rfl rfl
theorem s_X0_openReasons (x1 : Int32) (x2 : Int32) (h : AH) : Sim PP (2) k_X0_openReasons (0, [.inr (18, 0), .inl (.int x1), .inl (.int x2), av0, av0, av0], [], h) (f_X0_openReasons x1 x2 h) fI := by
  unfold f_X0_openReasons
  refine S_blk 4 (4, [.inr (18, 0), .inl (.int x1), .inl (.int x2), .inl (.int (0 : Int32)), .inl (.int (0 : Int32)), av0], [], h) rfl ?_
  refine S_nrm [.inr (18, 0), .inl (.int x1), .inl (.int x2), .inl (.int (0 : Int32)), .inl (.int (0 : Int32)), av0] rfl ?_
  refine S_lp 46 (fun v => [av0, av0, av0, .inl (.int v), av0, av0]) (sl_X0_openReasons_4 x1 x2 FU (0 : Int32) (0 : Int32) h) (fun v h => ?_)
  exact sc_X0_openReasons_46 v h
theorem s_X0_canGo (x1 : Int32) (x2 : Int32) (x3 : Int32) (x4 : Int32) (h : AH) : Sim PP (3) k_X0_canGo (0, [.inr (18, 0), .inl (.int x1), .inl (.int x2), .inl (.int x3), .inl (.int x4)], [], h) (f_X0_canGo x1 x2 x3 x4 h) fI := by
  unfold f_X0_canGo
  refine S_di 3 3 4 2 [.inr (18, 0), .inl (.int x1), .inl (.int x2), .inl (.int x3), .inl (.int x4)] [.inl (.int x4), .inl (.int x1), .inr (18, 0)] [.inr (18, 0), .inl (.int x1), .inl (.int x4), av0, av0, av0] [.inr (18, 0), .inl (.int x1), .inl (.int x2), .inl (.int x3), .inl (.int x4)] [] h rfl rfl pp_4 (by decide) (s_X0_openReasons x1 x4 h) (fun y1 h2 => ?_)
  refine S_di 1 5 138 0 [.inr (18, 0), .inl (.int x1), .inl (.int x2), .inl (.int x3), .inl (.int x4)] [.inl (.int x2), .inl (.int y1)] [.inl (.int y1), .inl (.int x2)] [.inr (18, 0), .inl (.int x1), .inl (.int x2), .inl (.int x3), .inl (.int x4)] [] h2 rfl rfl pp_138 (by decide) (s_X11_has y1 x2 h2) (fun y3 h4 => ?_)
  refine S_br 1 21 7 [.inr (18, 0), .inl (.int x1), .inl (.int x2), .inl (.int x3), .inl (.int x4)] [] h4 rfl (fun _ => ?_) (fun _ => ?_)
  · exact S_ri 1 (22, [.inr (18, 0), .inl (.int x1), .inl (.int x2), .inl (.int x3), .inl (.int x4)], [.inl (.int (0 : Int32))], h4) rfl rfl
  · refine S_grd 5 (12, [.inr (18, 0), .inl (.int x1), .inl (.int x2), .inl (.int x3), .inl (.int x4)], [.inl (.int (h4.1 16 0 x2.toNatClampNeg))], h4) rfl (fun _ => ?_)
    refine S_di 5 17 138 0 [.inr (18, 0), .inl (.int x1), .inl (.int x2), .inl (.int x3), .inl (.int x4)] [.inl (.int x3), .inl (.int ((h4.1 16 0 x2.toNatClampNeg) &&& (x4 ^^^ (-1 : Int32))))] [.inl (.int ((h4.1 16 0 x2.toNatClampNeg) &&& (x4 ^^^ (-1 : Int32)))), .inl (.int x3)] [.inr (18, 0), .inl (.int x1), .inl (.int x2), .inl (.int x3), .inl (.int x4)] [] h4 rfl rfl pp_138 (by decide) (s_X11_has ((h4.1 16 0 x2.toNatClampNeg) &&& (x4 ^^^ (-1 : Int32))) x3 h4) (fun y5 h6 => ?_)
    refine S_br 1 21 19 [.inr (18, 0), .inl (.int x1), .inl (.int x2), .inl (.int x3), .inl (.int x4)] [] h6 rfl (fun _ => ?_) (fun _ => ?_)
    · exact S_ri 1 (22, [.inr (18, 0), .inl (.int x1), .inl (.int x2), .inl (.int x3), .inl (.int x4)], [.inl (.int (0 : Int32))], h6) rfl rfl
    · exact S_ri 2 (22, [.inr (18, 0), .inl (.int x1), .inl (.int x2), .inl (.int x3), .inl (.int x4)], [.inl (.int (1 : Int32))], h6) rfl rfl
theorem s_X7_answers (r0 : Nat) (h : AH) : Sim PP (0) k_X7_answers (0, [.inr (8, r0)], [], h) (f_X7_answers r0 h) fI := by
  unfold f_X7_answers
  refine S_br 3 8 3 [.inr (8, r0)] [] h rfl (fun _ => ?_) (fun _ => ?_)
  · exact S_ri 1 (9, [.inr (8, r0)], [.inl (.int (0 : Int32))], h) rfl rfl
  · exact S_ri 5 (9, [.inr (8, r0)], [.inl (.int ((h.1 8 r0 2) - (1 : Int32)))], h) rfl rfl
theorem s_X7_goTo (r0 : Nat) (x1 : Int32) (h : AH) : Sim PP (0) k_X7_goTo (0, [.inr (8, r0), .inl (.int x1)], [], h) (f_X7_goTo r0 x1 h) fV := by
  unfold f_X7_goTo
  refine S_br 6 18 6 [.inr (8, r0), .inl (.int x1)] [] h rfl (fun _ => ?_) (fun _ => ?_)
  · exact S_rv 0 (18, [.inr (8, r0), .inl (.int x1)], [], h) rfl rfl
  · refine S_grd 6 (12, [.inr (8, r0), .inl (.int x1)], [], (hsI h 10 r0 (h.1 8 r0 2).toNatClampNeg x1)) rfl (fun _ => ?_)
    exact S_rv 6 (18, [.inr (8, r0), .inl (.int x1)], [], (hsI (hsI h 10 r0 (h.1 8 r0 2).toNatClampNeg x1) 8 r0 2 (((hsI h 10 r0 (h.1 8 r0 2).toNatClampNeg x1).1 8 r0 2) + (1 : Int32)))) rfl rfl
theorem s_X11_answer (x1 : Int32) (x2 : Int32) (h : AH) : Sim PP (5) k_X11_answer (0, [.inr (0, 0), .inl (.int x1), .inl (.int x2)], [], h) (f_X11_answer x1 x2 h) fI := by
  unfold f_X11_answer
  refine S_di 2 2 137 0 [.inr (0, 0), .inl (.int x1), .inl (.int x2)] [.inl (.int x1), .inr (0, 0)] [.inr (0, 0), .inl (.int x1)] [.inr (0, 0), .inl (.int x1), .inl (.int x2)] [] h rfl rfl pp_137 (by decide) (s_X11_isReason x1 h) (fun y1 h2 => ?_)
  refine S_br 1 8 4 [.inr (0, 0), .inl (.int x1), .inl (.int x2)] [] h2 rfl (fun _ => ?_) (fun _ => ?_)
  · exact S_ri 1 (9, [.inr (0, 0), .inl (.int x1), .inl (.int x2)], [.inl (.int (-1 : Int32))], h2) rfl rfl
  · refine S_di 2 6 136 0 [.inr (0, 0), .inl (.int x1), .inl (.int x2)] [.inl (.int x2), .inr (0, 0)] [.inr (0, 0), .inl (.int x2)] [.inr (0, 0), .inl (.int x1), .inl (.int x2)] [] h2 rfl rfl pp_136 (by decide) (s_X11_isClaim x2 h2) (fun y3 h4 => ?_)
    refine S_br 1 8 10 [.inr (0, 0), .inl (.int x1), .inl (.int x2)] [] h4 rfl (fun _ => ?_) (fun _ => ?_)
    · exact S_ri 1 (9, [.inr (0, 0), .inl (.int x1), .inl (.int x2)], [.inl (.int (-1 : Int32))], h4) rfl rfl
    · refine S_di 2 12 56 0 [.inr (0, 0), .inl (.int x1), .inl (.int x2)] [.inr (8, 3)] [.inr (8, 3)] [.inr (0, 0), .inl (.int x1), .inl (.int x2)] [] h4 rfl rfl pp_56 (by decide) (s_X7_hasEvening 3 h4) (fun y5 h6 => ?_)
      refine S_br 1 26 14 [.inr (0, 0), .inl (.int x1), .inl (.int x2)] [] h6 rfl (fun _ => ?_) (fun _ => ?_)
      · exact S_ri 1 (27, [.inr (0, 0), .inl (.int x1), .inl (.int x2)], [.inl (.int (-4 : Int32))], h6) rfl rfl
      · refine S_di 4 18 58 0 [.inr (0, 0), .inl (.int x1), .inl (.int x2)] [.inr (8, 3), .inr (18, 0)] [.inr (8, 3)] [.inr (0, 0), .inl (.int x1), .inl (.int x2)] [.inr (18, 0)] h6 rfl rfl pp_58 (by decide) (s_X7_place 3 h6) (fun y7 h8 => ?_)
        refine S_di 4 23 62 0 [.inr (0, 0), .inl (.int x1), .inl (.int x2)] [.inr (8, 3), .inl (.int x2), .inl (.int x1), .inl (.int y7), .inr (18, 0)] [.inr (8, 3), av0, av0] [.inr (0, 0), .inl (.int x1), .inl (.int x2)] [.inl (.int x2), .inl (.int x1), .inl (.int y7), .inr (18, 0)] h8 rfl rfl pp_62 (by decide) (s_X7_barredBits 3 h8) (fun y9 h10 => ?_)
        refine S_di 0 24 5 3 [.inr (0, 0), .inl (.int x1), .inl (.int x2)] [.inl (.int y9), .inl (.int x2), .inl (.int x1), .inl (.int y7), .inr (18, 0)] [.inr (18, 0), .inl (.int y7), .inl (.int x1), .inl (.int x2), .inl (.int y9)] [.inr (0, 0), .inl (.int x1), .inl (.int x2)] [] h10 rfl rfl pp_5 (by decide) (s_X0_canGo y7 x1 x2 y9 h10) (fun y11 h12 => ?_)
        refine S_br 1 26 28 [.inr (0, 0), .inl (.int x1), .inl (.int x2)] [] h12 rfl (fun _ => ?_) (fun _ => ?_)
        · exact S_ri 1 (27, [.inr (0, 0), .inl (.int x1), .inl (.int x2)], [.inl (.int (-4 : Int32))], h12) rfl rfl
        · refine S_di 2 30 57 0 [.inr (0, 0), .inl (.int x1), .inl (.int x2)] [.inr (8, 3)] [.inr (8, 3)] [.inr (0, 0), .inl (.int x1), .inl (.int x2)] [] h12 rfl rfl pp_57 (by decide) (s_X7_answers 3 h12) (fun y13 h14 => ?_)
          refine S_br 2 35 33 [.inr (0, 0), .inl (.int x1), .inl (.int x2)] [] h14 rfl (fun _ => ?_) (fun _ => ?_)
          · refine S_dv 3 38 60 0 [.inr (0, 0), .inl (.int x1), .inl (.int x2)] [.inl (.int x2), .inr (8, 3)] [.inr (8, 3), .inl (.int x2)] [.inr (0, 0), .inl (.int x1), .inl (.int x2)] [] h14 rfl rfl pp_60 (by decide) (s_X7_goTo 3 x2 h14) (fun _ h16 => ?_)
            refine S_di 1 40 142 4 [.inr (0, 0), .inl (.int x1), .inl (.int x2)] [.inr (0, 0)] [.inr (0, 0)] [.inr (0, 0), .inl (.int x1), .inl (.int x2)] [] h16 rfl rfl pp_142 (by decide) (s_X11_overHere  h16) (fun y17 h18 => ?_)
            exact S_ri 0 (41, [.inr (0, 0), .inl (.int x1), .inl (.int x2)], [.inl (.int y17)], h18) rfl rfl
          · exact S_ri 1 (34, [.inr (0, 0), .inl (.int x1), .inl (.int x2)], [.inl (.int (-2 : Int32))], h14) rfl rfl
theorem sb_X12_mayAsk_m_askedOf_7  (rc : Int32 → Int32 → Int32 → AH → Option (Int32 × AH)) (x3 : Int32) (x4 : Int32) (x5 : Int32) (hrc : ∀ (x4 : Int32) (x5 : Int32) (h : AH), Sim PP (0) k_X12_mayAsk (7, [.inr (34, 0), av0, .inr (49, 0), .inl (.int x3), .inl (.int x4), .inl (.int x5)], [], h) (rc x3 x4 x5 h) (fE PP (0) k_X12_mayAsk 26 (fun v => [av0, av0, av0, av0, .inl (.int v), av0])))  (h : AH) : Sim PP (0) k_X12_mayAsk (7, [.inr (34, 0), av0, .inr (49, 0), .inl (.int x3), .inl (.int x4), .inl (.int x5)], [], h) (b_X12_mayAsk_m_askedOf_7 rc x3 x4 x5 h) (fE PP (0) k_X12_mayAsk 26 (fun v => [av0, av0, av0, av0, .inl (.int v), av0])) := by
  unfold b_X12_mayAsk_m_askedOf_7
  refine S_br 3 26 10 [.inr (34, 0), av0, .inr (49, 0), .inl (.int x3), .inl (.int x4), .inl (.int x5)] [] h rfl (fun _ => ?_) (fun _ => ?_)
  · exact S_ex x4 (fun v => [av0, av0, av0, av0, .inl (.int v), av0]) rfl
  · refine S_br 4 14 26 [.inr (34, 0), av0, .inr (49, 0), .inl (.int x3), .inl (.int x4), .inl (.int x5)] [] h rfl (fun _ => ?_) (fun _ => ?_)
    · refine S_grd 5 (19, [.inr (34, 0), av0, .inr (49, 0), .inl (.int x3), .inl (.int x4), .inl (.int x5)], [.inl (.int (h.1 49 0 x5.toNatClampNeg)), .inl (.int (1 : Int32)), .inl (.int x4)], h) rfl (fun _ => ?_)
      refine S_blk 7 (7, [.inr (34, 0), av0, .inr (49, 0), .inl (.int x3), .inl (.int (x4 &&& (((1 : Int32) <<< ((h.1 49 0 x5.toNatClampNeg) &&& 31)) ^^^ (-1 : Int32)))), .inl (.int (x5 + (1 : Int32)))], [], h) rfl ?_
      refine S_nrm [.inr (34, 0), av0, .inr (49, 0), .inl (.int x3), .inl (.int (x4 &&& (((1 : Int32) <<< ((h.1 49 0 x5.toNatClampNeg) &&& 31)) ^^^ (-1 : Int32)))), .inl (.int (x5 + (1 : Int32)))] rfl ?_
      exact hrc (x4 &&& (((1 : Int32) <<< ((h.1 49 0 x5.toNatClampNeg) &&& 31)) ^^^ (-1 : Int32))) (x5 + (1 : Int32)) h
    · exact S_ex x4 (fun v => [av0, av0, av0, av0, .inl (.int v), av0]) rfl
theorem sl_X12_mayAsk_m_askedOf_7    (x3 : Int32) : ∀ (F : Nat) (x4 : Int32) (x5 : Int32) (h : AH), Sim PP (0) k_X12_mayAsk (7, [.inr (34, 0), av0, .inr (49, 0), .inl (.int x3), .inl (.int x4), .inl (.int x5)], [], h) (l_X12_mayAsk_m_askedOf_7 F x3 x4 x5 h) (fE PP (0) k_X12_mayAsk 26 (fun v => [av0, av0, av0, av0, .inl (.int v), av0])) := by
  intro F
  induction F with
  | zero => intro x4 x5 h; exact S_none
  | succ F ih => intro x4 x5 h; exact sb_X12_mayAsk_m_askedOf_7 (l_X12_mayAsk_m_askedOf_7 F) x3 x4 x5 ih h
theorem sc_X12_mayAsk_m_askedOf_26    (x4 : Int32)  (h : AH) : Sim PP (0) k_X12_mayAsk (26, [av0, av0, av0, av0, .inl (.int x4), av0], [], h) (c_X12_mayAsk_m_askedOf_26  x4 h) fI := by
  unfold c_X12_mayAsk_m_askedOf_26
  exact S_ri 1 (27, [av0, av0, av0, av0, .inl (.int x4), av0], [.inl (.int x4)], h) rfl rfl
theorem s_X12_mayAsk_m_askedOf (x1 : Int32) (x3 : Int32) (h : AH) : Sim PP (0) k_X12_mayAsk (0, [.inr (34, 0), .inl (.int x1), .inr (49, 0), .inl (.int x3), av0, av0], [], h) (f_X12_mayAsk_m_askedOf x1 x3 h) fI := by
  unfold f_X12_mayAsk_m_askedOf
  refine S_grd 4 (4, [.inr (34, 0), .inl (.int x1), .inr (49, 0), .inl (.int x3), av0, av0], [.inl (.int (h.1 43 0 x1.toNatClampNeg))], h) rfl (fun _ => ?_)
  refine S_blk 3 (7, [.inr (34, 0), .inl (.int x1), .inr (49, 0), .inl (.int x3), .inl (.int (h.1 43 0 x1.toNatClampNeg)), .inl (.int (0 : Int32))], [], h) rfl ?_
  refine S_nrm [.inr (34, 0), av0, .inr (49, 0), .inl (.int x3), .inl (.int (h.1 43 0 x1.toNatClampNeg)), .inl (.int (0 : Int32))] rfl ?_
  refine S_lp 26 (fun v => [av0, av0, av0, av0, .inl (.int v), av0]) (sl_X12_mayAsk_m_askedOf_7 x3 FU (h.1 43 0 x1.toNatClampNeg) (0 : Int32) h) (fun v h => ?_)
  exact sc_X12_mayAsk_m_askedOf_26 v h
theorem sb_X12_mayAnswer_m_askedOf_10  (rc : Int32 → Int32 → Int32 → Int32 → AH → Option (Int32 × AH)) (x2 : Int32) (x3 : Int32) (x4 : Int32) (x5 : Int32) (hrc : ∀ (x4 : Int32) (x5 : Int32) (h : AH), Sim PP (4) k_X12_mayAnswer (10, [.inr (34, 0), .inr (49, 0), .inl (.int x2), .inl (.int x3), .inl (.int x4), .inl (.int x5)], [], h) (rc x2 x3 x4 x5 h) (fE PP (4) k_X12_mayAnswer 40 (fun v => [av0, av0, av0, av0, .inl (.int v), av0])))  (h : AH) : Sim PP (4) k_X12_mayAnswer (10, [.inr (34, 0), .inr (49, 0), .inl (.int x2), .inl (.int x3), .inl (.int x4), .inl (.int x5)], [], h) (b_X12_mayAnswer_m_askedOf_10 rc x2 x3 x4 x5 h) (fE PP (4) k_X12_mayAnswer 40 (fun v => [av0, av0, av0, av0, .inl (.int v), av0])) := by
  unfold b_X12_mayAnswer_m_askedOf_10
  refine S_br 4 40 14 [.inr (34, 0), .inr (49, 0), .inl (.int x2), .inl (.int x3), .inl (.int x4), .inl (.int x5)] [] h rfl (fun _ => ?_) (fun _ => ?_)
  · exact S_ex x4 (fun v => [av0, av0, av0, av0, .inl (.int v), av0]) rfl
  · refine S_di 2 16 216 3 [.inr (34, 0), .inr (49, 0), .inl (.int x2), .inl (.int x3), .inl (.int x4), .inl (.int x5)] [.inl (.int x3), .inr (34, 0)] [.inr (34, 0), .inl (.int x3)] [.inr (34, 0), .inr (49, 0), .inl (.int x2), .inl (.int x3), .inl (.int x4), .inl (.int x5)] [] h rfl rfl pp_216 (by decide) (s_X12_isOver x3 h) (fun y1 h2 => ?_)
    refine S_br 1 18 40 [.inr (34, 0), .inr (49, 0), .inl (.int x2), .inl (.int x3), .inl (.int x4), .inl (.int x5)] [] h2 rfl (fun _ => ?_) (fun _ => ?_)
    · refine S_di 3 21 198 1 [.inr (34, 0), .inr (49, 0), .inl (.int x2), .inl (.int x3), .inl (.int x4), .inl (.int x5)] [.inl (.int x3), .inr (34, 0), .inl (.int x4)] [.inr (34, 0), .inl (.int x3), av0, av0] [.inr (34, 0), .inr (49, 0), .inl (.int x2), .inl (.int x3), .inl (.int x4), .inl (.int x5)] [.inl (.int x4)] h2 rfl rfl pp_198 (by decide) (s_X12_usableFor x3 h2) (fun y3 h4 => ?_)
      refine S_di 1 23 155 0 [.inr (34, 0), .inr (49, 0), .inl (.int x2), .inl (.int x3), .inl (.int x4), .inl (.int x5)] [.inl (.int x5), .inl (.int y3), .inl (.int x4)] [.inl (.int y3), .inl (.int x5)] [.inr (34, 0), .inr (49, 0), .inl (.int x2), .inl (.int x3), .inl (.int x4), .inl (.int x5)] [.inl (.int x4)] h4 rfl rfl pp_155 (by decide) (s_X12_has y3 x5 h4) (fun y5 h6 => ?_)
      refine S_br 1 35 25 [.inr (34, 0), .inr (49, 0), .inl (.int x2), .inl (.int x3), .inl (.int x4), .inl (.int x5)] [.inl (.int x4)] h6 rfl (fun _ => ?_) (fun _ => ?_)
      · refine S_blk 5 (10, [.inr (34, 0), .inr (49, 0), .inl (.int x2), .inl (.int x3), .inl (.int (x4 ||| (0 : Int32))), .inl (.int (x5 + (1 : Int32)))], [], h6) rfl ?_
        refine S_nrm [.inr (34, 0), .inr (49, 0), .inl (.int x2), .inl (.int x3), .inl (.int (x4 ||| (0 : Int32))), .inl (.int (x5 + (1 : Int32)))] rfl ?_
        exact hrc (x4 ||| (0 : Int32)) (x5 + (1 : Int32)) h6
      · refine S_di 4 29 215 0 [.inr (34, 0), .inr (49, 0), .inl (.int x2), .inl (.int x3), .inl (.int x4), .inl (.int x5)] [.inl (.int x2), .inr (49, 0), .inl (.int x5), .inr (34, 0), .inl (.int x4)] [.inr (34, 0), .inl (.int x5), .inr (49, 0), .inl (.int x2), av0, av0] [.inr (34, 0), .inr (49, 0), .inl (.int x2), .inl (.int x3), .inl (.int x4), .inl (.int x5)] [.inl (.int x4)] h6 rfl rfl pp_215 (by decide) (s_X12_mayAsk_m_askedOf x5 x2 h6) (fun y7 h8 => ?_)
        refine S_br 1 35 31 [.inr (34, 0), .inr (49, 0), .inl (.int x2), .inl (.int x3), .inl (.int x4), .inl (.int x5)] [.inl (.int x4)] h8 rfl (fun _ => ?_) (fun _ => ?_)
        · refine S_blk 5 (10, [.inr (34, 0), .inr (49, 0), .inl (.int x2), .inl (.int x3), .inl (.int (x4 ||| (0 : Int32))), .inl (.int (x5 + (1 : Int32)))], [], h8) rfl ?_
          refine S_nrm [.inr (34, 0), .inr (49, 0), .inl (.int x2), .inl (.int x3), .inl (.int (x4 ||| (0 : Int32))), .inl (.int (x5 + (1 : Int32)))] rfl ?_
          exact hrc (x4 ||| (0 : Int32)) (x5 + (1 : Int32)) h8
        · refine S_blk 8 (10, [.inr (34, 0), .inr (49, 0), .inl (.int x2), .inl (.int x3), .inl (.int (x4 ||| ((1 : Int32) <<< (x5 &&& 31)))), .inl (.int (x5 + (1 : Int32)))], [], h8) rfl ?_
          refine S_nrm [.inr (34, 0), .inr (49, 0), .inl (.int x2), .inl (.int x3), .inl (.int (x4 ||| ((1 : Int32) <<< (x5 &&& 31)))), .inl (.int (x5 + (1 : Int32)))] rfl ?_
          exact hrc (x4 ||| ((1 : Int32) <<< (x5 &&& 31))) (x5 + (1 : Int32)) h8
    · exact S_ex x4 (fun v => [av0, av0, av0, av0, .inl (.int v), av0]) rfl
theorem sl_X12_mayAnswer_m_askedOf_10    (x2 : Int32) (x3 : Int32) : ∀ (F : Nat) (x4 : Int32) (x5 : Int32) (h : AH), Sim PP (4) k_X12_mayAnswer (10, [.inr (34, 0), .inr (49, 0), .inl (.int x2), .inl (.int x3), .inl (.int x4), .inl (.int x5)], [], h) (l_X12_mayAnswer_m_askedOf_10 F x2 x3 x4 x5 h) (fE PP (4) k_X12_mayAnswer 40 (fun v => [av0, av0, av0, av0, .inl (.int v), av0])) := by
  intro F
  induction F with
  | zero => intro x4 x5 h; exact S_none
  | succ F ih => intro x4 x5 h; exact sb_X12_mayAnswer_m_askedOf_10 (l_X12_mayAnswer_m_askedOf_10 F) x2 x3 x4 x5 ih h
theorem sc_X12_mayAnswer_m_askedOf_40    (x4 : Int32)  (h : AH) : Sim PP (4) k_X12_mayAnswer (40, [av0, av0, av0, av0, .inl (.int x4), av0], [], h) (c_X12_mayAnswer_m_askedOf_40  x4 h) fI := by
  unfold c_X12_mayAnswer_m_askedOf_40
  exact S_ri 1 (41, [av0, av0, av0, av0, .inl (.int x4), av0], [.inl (.int x4)], h) rfl rfl
theorem s_X12_mayAnswer_m_askedOf (x2 : Int32) (h : AH) : Sim PP (4) k_X12_mayAnswer (0, [.inr (34, 0), .inr (49, 0), .inl (.int x2), av0, av0, av0], [], h) (f_X12_mayAnswer_m_askedOf x2 h) fI := by
  unfold f_X12_mayAnswer_m_askedOf
  refine S_grd 5 (5, [.inr (34, 0), .inr (49, 0), .inl (.int x2), av0, av0, av0], [.inl (.int (h.1 49 0 (x2 - (1 : Int32)).toNatClampNeg))], h) rfl (fun _ => ?_)
  refine S_blk 5 (10, [.inr (34, 0), .inr (49, 0), .inl (.int x2), .inl (.int (h.1 49 0 (x2 - (1 : Int32)).toNatClampNeg)), .inl (.int (0 : Int32)), .inl (.int (0 : Int32))], [], h) rfl ?_
  refine S_nrm [.inr (34, 0), .inr (49, 0), .inl (.int x2), .inl (.int (h.1 49 0 (x2 - (1 : Int32)).toNatClampNeg)), .inl (.int (0 : Int32)), .inl (.int (0 : Int32))] rfl ?_
  refine S_lp 40 (fun v => [av0, av0, av0, av0, .inl (.int v), av0]) (sl_X12_mayAnswer_m_askedOf_10 x2 (h.1 49 0 (x2 - (1 : Int32)).toNatClampNeg) FU (0 : Int32) (0 : Int32) h) (fun v h => ?_)
  exact sc_X12_mayAnswer_m_askedOf_40 v h
theorem s_X12_canAnswer_m_askedOf (x2 : Int32) (x3 : Int32) (x4 : Int32) (h : AH) : Sim PP (5) k_X12_canAnswer (0, [.inr (34, 0), .inr (49, 0), .inl (.int x2), .inl (.int x3), .inl (.int x4)], [], h) (f_X12_canAnswer_m_askedOf x2 x3 x4 h) fI := by
  unfold f_X12_canAnswer_m_askedOf
  refine S_di 3 3 217 4 [.inr (34, 0), .inr (49, 0), .inl (.int x2), .inl (.int x3), .inl (.int x4)] [.inl (.int x2), .inr (49, 0), .inr (34, 0)] [.inr (34, 0), .inr (49, 0), .inl (.int x2), av0, av0, av0] [.inr (34, 0), .inr (49, 0), .inl (.int x2), .inl (.int x3), .inl (.int x4)] [] h rfl rfl pp_217 (by decide) (s_X12_mayAnswer_m_askedOf x2 h) (fun y1 h2 => ?_)
  refine S_di 1 5 155 0 [.inr (34, 0), .inr (49, 0), .inl (.int x2), .inl (.int x3), .inl (.int x4)] [.inl (.int x3), .inl (.int y1)] [.inl (.int y1), .inl (.int x3)] [.inr (34, 0), .inr (49, 0), .inl (.int x2), .inl (.int x3), .inl (.int x4)] [] h2 rfl rfl pp_155 (by decide) (s_X12_has y1 x3 h2) (fun y3 h4 => ?_)
  refine S_br 1 17 7 [.inr (34, 0), .inr (49, 0), .inl (.int x2), .inl (.int x3), .inl (.int x4)] [] h4 rfl (fun _ => ?_) (fun _ => ?_)
  · exact S_ri 1 (18, [.inr (34, 0), .inr (49, 0), .inl (.int x2), .inl (.int x3), .inl (.int x4)], [.inl (.int (0 : Int32))], h4) rfl rfl
  · refine S_di 4 11 215 0 [.inr (34, 0), .inr (49, 0), .inl (.int x2), .inl (.int x3), .inl (.int x4)] [.inl (.int x2), .inr (49, 0), .inl (.int x3), .inr (34, 0)] [.inr (34, 0), .inl (.int x3), .inr (49, 0), .inl (.int x2), av0, av0] [.inr (34, 0), .inr (49, 0), .inl (.int x2), .inl (.int x3), .inl (.int x4)] [] h4 rfl rfl pp_215 (by decide) (s_X12_mayAsk_m_askedOf x3 x2 h4) (fun y5 h6 => ?_)
    refine S_di 1 13 155 0 [.inr (34, 0), .inr (49, 0), .inl (.int x2), .inl (.int x3), .inl (.int x4)] [.inl (.int x4), .inl (.int y5)] [.inl (.int y5), .inl (.int x4)] [.inr (34, 0), .inr (49, 0), .inl (.int x2), .inl (.int x3), .inl (.int x4)] [] h6 rfl rfl pp_155 (by decide) (s_X12_has y5 x4 h6) (fun y7 h8 => ?_)
    refine S_br 1 17 15 [.inr (34, 0), .inr (49, 0), .inl (.int x2), .inl (.int x3), .inl (.int x4)] [] h8 rfl (fun _ => ?_) (fun _ => ?_)
    · exact S_ri 1 (18, [.inr (34, 0), .inr (49, 0), .inl (.int x2), .inl (.int x3), .inl (.int x4)], [.inl (.int (0 : Int32))], h8) rfl rfl
    · exact S_ri 2 (18, [.inr (34, 0), .inr (49, 0), .inl (.int x2), .inl (.int x3), .inl (.int x4)], [.inl (.int (1 : Int32))], h8) rfl rfl
theorem s_X12_answer (x1 : Int32) (x2 : Int32) (h : AH) : Sim PP (6) k_X12_answer (0, [.inr (34, 0), .inl (.int x1), .inl (.int x2)], [], h) (f_X12_answer x1 x2 h) fI := by
  unfold f_X12_answer
  refine S_di 2 2 190 1 [.inr (34, 0), .inl (.int x1), .inl (.int x2)] [.inl (.int x1), .inr (34, 0)] [.inr (34, 0), .inl (.int x1)] [.inr (34, 0), .inl (.int x1), .inl (.int x2)] [] h rfl rfl pp_190 (by decide) (s_X12_isReason x1 h) (fun y1 h2 => ?_)
  refine S_br 1 8 4 [.inr (34, 0), .inl (.int x1), .inl (.int x2)] [] h2 rfl (fun _ => ?_) (fun _ => ?_)
  · exact S_ri 1 (9, [.inr (34, 0), .inl (.int x1), .inl (.int x2)], [.inl (.int (-1 : Int32))], h2) rfl rfl
  · refine S_di 2 6 189 1 [.inr (34, 0), .inl (.int x1), .inl (.int x2)] [.inl (.int x2), .inr (34, 0)] [.inr (34, 0), .inl (.int x2)] [.inr (34, 0), .inl (.int x1), .inl (.int x2)] [] h2 rfl rfl pp_189 (by decide) (s_X12_isClaim x2 h2) (fun y3 h4 => ?_)
    refine S_br 1 8 10 [.inr (34, 0), .inl (.int x1), .inl (.int x2)] [] h4 rfl (fun _ => ?_) (fun _ => ?_)
    · exact S_ri 1 (9, [.inr (34, 0), .inl (.int x1), .inl (.int x2)], [.inl (.int (-1 : Int32))], h4) rfl rfl
    · refine S_br 3 22 13 [.inr (34, 0), .inl (.int x1), .inl (.int x2)] [] h4 rfl (fun _ => ?_) (fun _ => ?_)
      · exact S_ri 1 (23, [.inr (34, 0), .inl (.int x1), .inl (.int x2)], [.inl (.int (-4 : Int32))], h4) rfl rfl
      · refine S_di 7 20 220 5 [.inr (34, 0), .inl (.int x1), .inl (.int x2)] [.inl (.int x2), .inl (.int x1), .inl (.int (h4.1 34 0 27)), .inr (49, 0), .inr (34, 0)] [.inr (34, 0), .inr (49, 0), .inl (.int (h4.1 34 0 27)), .inl (.int x1), .inl (.int x2)] [.inr (34, 0), .inl (.int x1), .inl (.int x2)] [] h4 rfl rfl pp_220 (by decide) (s_X12_canAnswer_m_askedOf (h4.1 34 0 27) x1 x2 h4) (fun y5 h6 => ?_)
        refine S_br 1 22 24 [.inr (34, 0), .inl (.int x1), .inl (.int x2)] [] h6 rfl (fun _ => ?_) (fun _ => ?_)
        · exact S_ri 1 (23, [.inr (34, 0), .inl (.int x1), .inl (.int x2)], [.inl (.int (-4 : Int32))], h6) rfl rfl
        · refine S_br 4 30 28 [.inr (34, 0), .inl (.int x1), .inl (.int x2)] [] h6 rfl (fun _ => ?_) (fun _ => ?_)
          · refine S_grd 6 (36, [.inr (34, 0), .inl (.int x1), .inl (.int x2)], [], (hsI h6 49 0 (h6.1 34 0 27).toNatClampNeg x2)) rfl (fun _ => ?_)
            refine S_di 8 44 216 3 [.inr (34, 0), .inl (.int x1), .inl (.int x2)] [.inl (.int x2), .inr (34, 0)] [.inr (34, 0), .inl (.int x2)] [.inr (34, 0), .inl (.int x1), .inl (.int x2)] [] (hsI (hsI h6 49 0 (h6.1 34 0 27).toNatClampNeg x2) 34 0 27 (((hsI h6 49 0 (h6.1 34 0 27).toNatClampNeg x2).1 34 0 27) + (1 : Int32))) rfl rfl pp_216 (by decide) (s_X12_isOver x2 (hsI (hsI h6 49 0 (h6.1 34 0 27).toNatClampNeg x2) 34 0 27 (((hsI h6 49 0 (h6.1 34 0 27).toNatClampNeg x2).1 34 0 27) + (1 : Int32)))) (fun y7 h8 => ?_)
            refine S_br 1 48 46 [.inr (34, 0), .inl (.int x1), .inl (.int x2)] [] h8 rfl (fun _ => ?_) (fun _ => ?_)
            · exact S_ri 1 (49, [.inr (34, 0), .inl (.int x1), .inl (.int x2)], [.inl (.int (0 : Int32))], h8) rfl rfl
            · exact S_ri 2 (49, [.inr (34, 0), .inl (.int x1), .inl (.int x2)], [.inl (.int (1 : Int32))], h8) rfl rfl
          · exact S_ri 1 (29, [.inr (34, 0), .inl (.int x1), .inl (.int x2)], [.inl (.int (-2 : Int32))], h6) rfl rfl
theorem s_X7_cutTo (r0 : Nat) (x1 : Int32) (h : AH) : Sim PP (0) k_X7_cutTo (0, [.inr (8, r0), .inl (.int x1)], [], h) (f_X7_cutTo r0 x1 h) fV := by
  unfold f_X7_cutTo
  refine S_br 3 8 3 [.inr (8, r0), .inl (.int x1)] [] h rfl (fun _ => ?_) (fun _ => ?_)
  · exact S_rv 0 (8, [.inr (8, r0), .inl (.int x1)], [], h) rfl rfl
  · exact S_rv 5 (8, [.inr (8, r0), .inl (.int x1)], [], (hsI h 8 r0 2 (x1 + (1 : Int32)))) rfl rfl
theorem s_X11_undo (x1 : Int32) (h : AH) : Sim PP (1) k_X11_undo (0, [.inr (0, 0), .inl (.int x1), av0], [], h) (f_X11_undo x1 h) fI := by
  unfold f_X11_undo
  refine S_di 2 2 57 0 [.inr (0, 0), .inl (.int x1), av0] [.inr (8, 3)] [.inr (8, 3)] [.inr (0, 0), .inl (.int x1), av0] [] h rfl rfl pp_57 (by decide) (s_X7_answers 3 h) (fun y1 h2 => ?_)
  refine S_br 3 9 6 [.inr (0, 0), .inl (.int x1), .inl (.int y1)] [] h2 rfl (fun _ => ?_) (fun _ => ?_)
  · exact S_ri 1 (10, [.inr (0, 0), .inl (.int x1), .inl (.int y1)], [.inl (.int (-1 : Int32))], h2) rfl rfl
  · refine S_br 3 11 9 [.inr (0, 0), .inl (.int x1), .inl (.int y1)] [] h2 rfl (fun _ => ?_) (fun _ => ?_)
    · refine S_dv 3 14 61 0 [.inr (0, 0), .inl (.int x1), .inl (.int y1)] [.inl (.int x1), .inr (8, 3)] [.inr (8, 3), .inl (.int x1)] [.inr (0, 0), .inl (.int x1), .inl (.int y1)] [] h2 rfl rfl pp_61 (by decide) (s_X7_cutTo 3 x1 h2) (fun _ h4 => ?_)
      exact S_ri 3 (18, [.inr (0, 0), .inl (.int x1), .inl (.int y1)], [.inl (.int (y1 - x1))], h4) rfl rfl
    · exact S_ri 1 (10, [.inr (0, 0), .inl (.int x1), .inl (.int y1)], [.inl (.int (-1 : Int32))], h2) rfl rfl
theorem s_X12_answerMany  (h : AH) : Sim PP (0) k_X12_answerMany (0, [.inr (34, 0)], [], h) (f_X12_answerMany  h) fI := by
  unfold f_X12_answerMany
  refine S_br 3 3 5 [.inr (34, 0)] [] h rfl (fun _ => ?_) (fun _ => ?_)
  · exact S_ri 2 (9, [.inr (34, 0)], [.inl (.int (0 : Int32))], h) rfl rfl
  · exact S_ri 4 (9, [.inr (34, 0)], [.inl (.int ((h.1 34 0 27) - (1 : Int32)))], h) rfl rfl
theorem s_X12_undo (x1 : Int32) (h : AH) : Sim PP (1) k_X12_undo (0, [.inr (34, 0), .inl (.int x1), av0], [], h) (f_X12_undo x1 h) fI := by
  unfold f_X12_undo
  refine S_di 3 3 222 0 [.inr (34, 0), .inl (.int x1), av0] [.inr (34, 0), .inl (.int (0 : Int32)), .inl (.int x1)] [.inr (34, 0)] [.inr (34, 0), .inl (.int x1), av0] [.inl (.int (0 : Int32)), .inl (.int x1)] h rfl rfl pp_222 (by decide) (s_X12_answerMany  h) (fun y1 h2 => ?_)
  refine S_di 0 4 154 0 [.inr (34, 0), .inl (.int x1), av0] [.inl (.int y1), .inl (.int (0 : Int32)), .inl (.int x1)] [.inl (.int x1), .inl (.int (0 : Int32)), .inl (.int y1)] [.inr (34, 0), .inl (.int x1), av0] [] h2 rfl rfl pp_154 (by decide) (s_X12_in x1 (0 : Int32) y1 h2) (fun y3 h4 => ?_)
  refine S_br 1 6 8 [.inr (34, 0), .inl (.int x1), av0] [] h4 rfl (fun _ => ?_) (fun _ => ?_)
  · exact S_ri 1 (7, [.inr (34, 0), .inl (.int x1), av0], [.inl (.int (-1 : Int32))], h4) rfl rfl
  · refine S_di 1 9 222 0 [.inr (34, 0), .inl (.int x1), av0] [.inr (34, 0)] [.inr (34, 0)] [.inr (34, 0), .inl (.int x1), av0] [] h4 rfl rfl pp_222 (by decide) (s_X12_answerMany  h4) (fun y5 h6 => ?_)
    exact S_ri 10 (20, [.inr (34, 0), .inl (.int x1), .inl (.int (y5 - x1))], [.inl (.int (y5 - x1))], (hsI h6 34 0 27 ((h6.1 34 0 27) - (y5 - x1)))) rfl rfl
theorem s_X11_here  (h : AH) : Sim PP (1) k_X11_here (0, [.inr (0, 0)], [], h) (f_X11_here  h) fI := by
  unfold f_X11_here
  refine S_di 2 2 56 0 [.inr (0, 0)] [.inr (8, 3)] [.inr (8, 3)] [.inr (0, 0)] [] h rfl rfl pp_56 (by decide) (s_X7_hasEvening 3 h) (fun y1 h2 => ?_)
  refine S_br 1 4 6 [.inr (0, 0)] [] h2 rfl (fun _ => ?_) (fun _ => ?_)
  · exact S_ri 1 (5, [.inr (0, 0)], [.inl (.int (-4 : Int32))], h2) rfl rfl
  · refine S_di 3 9 57 0 [.inr (0, 0)] [.inr (8, 3), .inr (0, 0)] [.inr (8, 3)] [.inr (0, 0)] [.inr (0, 0)] h2 rfl rfl pp_57 (by decide) (s_X7_answers 3 h2) (fun y3 h4 => ?_)
    refine S_di 3 13 58 0 [.inr (0, 0)] [.inr (8, 3)] [.inr (8, 3)] [.inr (0, 0)] [] (hsI h4 0 0 14 y3) rfl rfl pp_58 (by decide) (s_X7_place 3 (hsI h4 0 0 14 y3)) (fun y5 h6 => ?_)
    exact S_ri 0 (14, [.inr (0, 0)], [.inl (.int y5)], h6) rfl rfl
theorem s_X12_here  (h : AH) : Sim PP (1) k_X12_here (0, [.inr (34, 0)], [], h) (f_X12_here  h) fI := by
  unfold f_X12_here
  refine S_br 3 3 5 [.inr (34, 0)] [] h rfl (fun _ => ?_) (fun _ => ?_)
  · exact S_ri 2 (16, [.inr (34, 0)], [.inl (.int (-4 : Int32))], h) rfl rfl
  · refine S_di 2 7 222 0 [.inr (34, 0)] [.inr (34, 0), .inr (34, 0)] [.inr (34, 0)] [.inr (34, 0)] [.inr (34, 0)] h rfl rfl pp_222 (by decide) (s_X12_answerMany  h) (fun y1 h2 => ?_)
    refine S_grd 7 (15, [.inr (34, 0)], [.inl (.int (h2.1 49 0 ((h2.1 34 0 27) - (1 : Int32)).toNatClampNeg)), .inl (.int y1), .inr (34, 0)], h2) rfl (fun _ => ?_)
    refine S_di 0 15 162 0 [.inr (34, 0)] [.inl (.int (h2.1 49 0 ((h2.1 34 0 27) - (1 : Int32)).toNatClampNeg)), .inl (.int y1), .inr (34, 0)] [.inr (34, 0), .inl (.int y1), .inl (.int (h2.1 49 0 ((h2.1 34 0 27) - (1 : Int32)).toNatClampNeg))] [.inr (34, 0)] [] h2 rfl rfl pp_162 (by decide) (s_X12_tells y1 (h2.1 49 0 ((h2.1 34 0 27) - (1 : Int32)).toNatClampNeg) h2) (fun y3 h4 => ?_)
    exact S_ri 0 (16, [.inr (34, 0)], [.inl (.int y3)], h4) rfl rfl
theorem s_X11_may  (h : AH) : Sim PP (3) k_X11_may (0, [.inr (0, 0)], [], h) (f_X11_may  h) fI := by
  unfold f_X11_may
  refine S_di 2 2 56 0 [.inr (0, 0)] [.inr (8, 3)] [.inr (8, 3)] [.inr (0, 0)] [] h rfl rfl pp_56 (by decide) (s_X7_hasEvening 3 h) (fun y1 h2 => ?_)
  refine S_br 1 4 6 [.inr (0, 0)] [] h2 rfl (fun _ => ?_) (fun _ => ?_)
  · exact S_ri 1 (5, [.inr (0, 0)], [.inl (.int (-4 : Int32))], h2) rfl rfl
  · refine S_di 4 10 58 0 [.inr (0, 0)] [.inr (8, 3), .inr (18, 0)] [.inr (8, 3)] [.inr (0, 0)] [.inr (18, 0)] h2 rfl rfl pp_58 (by decide) (s_X7_place 3 h2) (fun y3 h4 => ?_)
    refine S_di 2 13 62 0 [.inr (0, 0)] [.inr (8, 3), .inl (.int y3), .inr (18, 0)] [.inr (8, 3), av0, av0] [.inr (0, 0)] [.inl (.int y3), .inr (18, 0)] h4 rfl rfl pp_62 (by decide) (s_X7_barredBits 3 h4) (fun y5 h6 => ?_)
    refine S_di 0 14 4 2 [.inr (0, 0)] [.inl (.int y5), .inl (.int y3), .inr (18, 0)] [.inr (18, 0), .inl (.int y3), .inl (.int y5), av0, av0, av0] [.inr (0, 0)] [] h6 rfl rfl pp_4 (by decide) (s_X0_openReasons y3 y5 h6) (fun y7 h8 => ?_)
    exact S_ri 0 (15, [.inr (0, 0)], [.inl (.int y7)], h8) rfl rfl
theorem s_X12_may  (h : AH) : Sim PP (5) k_X12_may (0, [.inr (34, 0)], [], h) (f_X12_may  h) fI := by
  unfold f_X12_may
  refine S_br 3 3 5 [.inr (34, 0)] [] h rfl (fun _ => ?_) (fun _ => ?_)
  · exact S_ri 2 (11, [.inr (34, 0)], [.inl (.int (-4 : Int32))], h) rfl rfl
  · refine S_di 5 10 217 4 [.inr (34, 0)] [.inl (.int (h.1 34 0 27)), .inr (49, 0), .inr (34, 0)] [.inr (34, 0), .inr (49, 0), .inl (.int (h.1 34 0 27)), av0, av0, av0] [.inr (34, 0)] [] h rfl rfl pp_217 (by decide) (s_X12_mayAnswer_m_askedOf (h.1 34 0 27) h) (fun y1 h2 => ?_)
    exact S_ri 0 (11, [.inr (34, 0)], [.inl (.int y1)], h2) rfl rfl
theorem s_X0_wayOut (x1 : Int32) (x2 : Int32) (h : AH) : Sim PP (3) k_X0_wayOut (0, [.inr (18, 0), .inl (.int x1), .inl (.int x2)], [], h) (f_X0_wayOut x1 x2 h) fI := by
  unfold f_X0_wayOut
  refine S_di 1 1 2 2 [.inr (18, 0), .inl (.int x1), .inl (.int x2)] [.inr (18, 0)] [.inr (18, 0), av0, av0] [.inr (18, 0), .inl (.int x1), .inl (.int x2)] [] h rfl rfl pp_2 (by decide) (s_X0_lossBits  h) (fun y1 h2 => ?_)
  refine S_di 1 3 138 0 [.inr (18, 0), .inl (.int x1), .inl (.int x2)] [.inl (.int x1), .inl (.int y1)] [.inl (.int y1), .inl (.int x1)] [.inr (18, 0), .inl (.int x1), .inl (.int x2)] [] h2 rfl rfl pp_138 (by decide) (s_X11_has y1 x1 h2) (fun y3 h4 => ?_)
  refine S_br 1 7 5 [.inr (18, 0), .inl (.int x1), .inl (.int x2)] [] h4 rfl (fun _ => ?_) (fun _ => ?_)
  · refine S_di 3 10 51 1 [.inr (18, 0), .inl (.int x1), .inl (.int x2)] [.inl (.int (1 : Int32)), .inr (12, 0)] [.inr (12, 0), .inl (.int (1 : Int32))] [.inr (18, 0), .inl (.int x1), .inl (.int x2)] [] h4 rfl rfl pp_51 (by decide) (s_X6_bitsOf 0 (1 : Int32) h4) (fun y5 h6 => ?_)
    refine S_di 1 12 138 0 [.inr (18, 0), .inl (.int x1), .inl (.int x2)] [.inl (.int x1), .inl (.int y5)] [.inl (.int y5), .inl (.int x1)] [.inr (18, 0), .inl (.int x1), .inl (.int x2)] [] h6 rfl rfl pp_138 (by decide) (s_X11_has y5 x1 h6) (fun y7 h8 => ?_)
    refine S_br 1 16 14 [.inr (18, 0), .inl (.int x1), .inl (.int x2)] [] h8 rfl (fun _ => ?_) (fun _ => ?_)
    · refine S_di 3 19 4 2 [.inr (18, 0), .inl (.int x1), .inl (.int x2)] [.inl (.int x2), .inl (.int x1), .inr (18, 0)] [.inr (18, 0), .inl (.int x1), .inl (.int x2), av0, av0, av0] [.inr (18, 0), .inl (.int x1), .inl (.int x2)] [] h8 rfl rfl pp_4 (by decide) (s_X0_openReasons x1 x2 h8) (fun y9 h10 => ?_)
      refine S_br 1 21 23 [.inr (18, 0), .inl (.int x1), .inl (.int x2)] [] h10 rfl (fun _ => ?_) (fun _ => ?_)
      · exact S_ri 2 (24, [.inr (18, 0), .inl (.int x1), .inl (.int x2)], [.inl (.int (3 : Int32))], h10) rfl rfl
      · exact S_ri 1 (24, [.inr (18, 0), .inl (.int x1), .inl (.int x2)], [.inl (.int (0 : Int32))], h10) rfl rfl
    · exact S_ri 1 (15, [.inr (18, 0), .inl (.int x1), .inl (.int x2)], [.inl (.int (1 : Int32))], h8) rfl rfl
  · exact S_ri 1 (6, [.inr (18, 0), .inl (.int x1), .inl (.int x2)], [.inl (.int (2 : Int32))], h4) rfl rfl
theorem s_X11_ends  (h : AH) : Sim PP (4) k_X11_ends (0, [.inr (0, 0)], [], h) (f_X11_ends  h) fI := by
  unfold f_X11_ends
  refine S_di 2 2 56 0 [.inr (0, 0)] [.inr (8, 3)] [.inr (8, 3)] [.inr (0, 0)] [] h rfl rfl pp_56 (by decide) (s_X7_hasEvening 3 h) (fun y1 h2 => ?_)
  refine S_br 1 4 6 [.inr (0, 0)] [] h2 rfl (fun _ => ?_) (fun _ => ?_)
  · exact S_ri 1 (5, [.inr (0, 0)], [.inl (.int (-4 : Int32))], h2) rfl rfl
  · refine S_di 4 10 58 0 [.inr (0, 0)] [.inr (8, 3), .inr (18, 0)] [.inr (8, 3)] [.inr (0, 0)] [.inr (18, 0)] h2 rfl rfl pp_58 (by decide) (s_X7_place 3 h2) (fun y3 h4 => ?_)
    refine S_di 2 13 62 0 [.inr (0, 0)] [.inr (8, 3), .inl (.int y3), .inr (18, 0)] [.inr (8, 3), av0, av0] [.inr (0, 0)] [.inl (.int y3), .inr (18, 0)] h4 rfl rfl pp_62 (by decide) (s_X7_barredBits 3 h4) (fun y5 h6 => ?_)
    refine S_di 0 14 6 3 [.inr (0, 0)] [.inl (.int y5), .inl (.int y3), .inr (18, 0)] [.inr (18, 0), .inl (.int y3), .inl (.int y5)] [.inr (0, 0)] [] h6 rfl rfl pp_6 (by decide) (s_X0_wayOut y3 y5 h6) (fun y7 h8 => ?_)
    exact S_ri 0 (15, [.inr (0, 0)], [.inl (.int y7)], h8) rfl rfl
theorem s_X12_endOf_m_askedOf (x2 : Int32) (h : AH) : Sim PP (5) k_X12_endOf (0, [.inr (34, 0), .inr (49, 0), .inl (.int x2), av0], [], h) (f_X12_endOf_m_askedOf x2 h) fI := by
  unfold f_X12_endOf_m_askedOf
  refine S_grd 5 (5, [.inr (34, 0), .inr (49, 0), .inl (.int x2), av0], [.inl (.int (h.1 49 0 (x2 - (1 : Int32)).toNatClampNeg))], h) rfl (fun _ => ?_)
  refine S_grd 5 (10, [.inr (34, 0), .inr (49, 0), .inl (.int x2), .inl (.int (h.1 49 0 (x2 - (1 : Int32)).toNatClampNeg))], [.inl (.int (h.1 41 0 (h.1 49 0 (x2 - (1 : Int32)).toNatClampNeg).toNatClampNeg))], h) rfl (fun _ => ?_)
  refine S_br 2 12 14 [.inr (34, 0), .inr (49, 0), .inl (.int x2), .inl (.int (h.1 49 0 (x2 - (1 : Int32)).toNatClampNeg))] [] h rfl (fun _ => ?_) (fun _ => ?_)
  · exact S_ri 2 (28, [.inr (34, 0), .inr (49, 0), .inl (.int x2), .inl (.int (h.1 49 0 (x2 - (1 : Int32)).toNatClampNeg))], [.inl (.int (1 : Int32))], h) rfl rfl
  · refine S_di 2 16 199 2 [.inr (34, 0), .inr (49, 0), .inl (.int x2), .inl (.int (h.1 49 0 (x2 - (1 : Int32)).toNatClampNeg))] [.inl (.int (h.1 49 0 (x2 - (1 : Int32)).toNatClampNeg)), .inr (34, 0)] [.inr (34, 0), .inl (.int (h.1 49 0 (x2 - (1 : Int32)).toNatClampNeg))] [.inr (34, 0), .inr (49, 0), .inl (.int x2), .inl (.int (h.1 49 0 (x2 - (1 : Int32)).toNatClampNeg))] [] h rfl rfl pp_199 (by decide) (s_X12_isAtLoss (h.1 49 0 (x2 - (1 : Int32)).toNatClampNeg) h) (fun y1 h2 => ?_)
    refine S_br 1 20 18 [.inr (34, 0), .inr (49, 0), .inl (.int x2), .inl (.int (h.1 49 0 (x2 - (1 : Int32)).toNatClampNeg))] [] h2 rfl (fun _ => ?_) (fun _ => ?_)
    · refine S_di 3 23 217 4 [.inr (34, 0), .inr (49, 0), .inl (.int x2), .inl (.int (h.1 49 0 (x2 - (1 : Int32)).toNatClampNeg))] [.inl (.int x2), .inr (49, 0), .inr (34, 0)] [.inr (34, 0), .inr (49, 0), .inl (.int x2), av0, av0, av0] [.inr (34, 0), .inr (49, 0), .inl (.int x2), .inl (.int (h.1 49 0 (x2 - (1 : Int32)).toNatClampNeg))] [] h2 rfl rfl pp_217 (by decide) (s_X12_mayAnswer_m_askedOf x2 h2) (fun y3 h4 => ?_)
      refine S_br 1 25 27 [.inr (34, 0), .inr (49, 0), .inl (.int x2), .inl (.int (h.1 49 0 (x2 - (1 : Int32)).toNatClampNeg))] [] h4 rfl (fun _ => ?_) (fun _ => ?_)
      · exact S_ri 2 (28, [.inr (34, 0), .inr (49, 0), .inl (.int x2), .inl (.int (h.1 49 0 (x2 - (1 : Int32)).toNatClampNeg))], [.inl (.int (3 : Int32))], h4) rfl rfl
      · exact S_ri 1 (28, [.inr (34, 0), .inr (49, 0), .inl (.int x2), .inl (.int (h.1 49 0 (x2 - (1 : Int32)).toNatClampNeg))], [.inl (.int (0 : Int32))], h4) rfl rfl
    · exact S_ri 2 (28, [.inr (34, 0), .inr (49, 0), .inl (.int x2), .inl (.int (h.1 49 0 (x2 - (1 : Int32)).toNatClampNeg))], [.inl (.int (2 : Int32))], h2) rfl rfl
theorem s_X12_ends  (h : AH) : Sim PP (6) k_X12_ends (0, [.inr (34, 0)], [], h) (f_X12_ends  h) fI := by
  unfold f_X12_ends
  refine S_br 3 3 5 [.inr (34, 0)] [] h rfl (fun _ => ?_) (fun _ => ?_)
  · exact S_ri 2 (11, [.inr (34, 0)], [.inl (.int (-4 : Int32))], h) rfl rfl
  · refine S_di 5 10 218 5 [.inr (34, 0)] [.inl (.int (h.1 34 0 27)), .inr (49, 0), .inr (34, 0)] [.inr (34, 0), .inr (49, 0), .inl (.int (h.1 34 0 27)), av0] [.inr (34, 0)] [] h rfl rfl pp_218 (by decide) (s_X12_endOf_m_askedOf (h.1 34 0 27) h) (fun y1 h2 => ?_)
    exact S_ri 0 (11, [.inr (34, 0)], [.inl (.int y1)], h2) rfl rfl
theorem sb_X5_take_trail_5  (rc : Nat → Nat → Int32 → Int32 → AH → Option (Unit × AH)) (r0 : Nat) (r1 : Nat) (x2 : Int32) (x3 : Int32) (hrc : ∀ (x3 : Int32) (h : AH), Sim PP (2) k_X5_take (5, [.inr (2, r0), .inr (10, r1), .inl (.int x2), .inl (.int x3)], [], h) (rc r0 r1 x2 x3 h) (fE PP (2) k_X5_take 24 (fun v => [av0, av0, av0, av0])))  (h : AH) : Sim PP (2) k_X5_take (5, [.inr (2, r0), .inr (10, r1), .inl (.int x2), .inl (.int x3)], [], h) (b_X5_take_trail_5 rc r0 r1 x2 x3 h) (fE PP (2) k_X5_take 24 (fun v => [av0, av0, av0, av0])) := by
  unfold b_X5_take_trail_5
  refine S_br 3 24 8 [.inr (2, r0), .inr (10, r1), .inl (.int x2), .inl (.int x3)] [] h rfl (fun _ => ?_) (fun _ => ?_)
  · exact S_ex () (fun v => [av0, av0, av0, av0]) rfl
  · refine S_br 3 24 11 [.inr (2, r0), .inr (10, r1), .inl (.int x2), .inl (.int x3)] [] h rfl (fun _ => ?_) (fun _ => ?_)
    · exact S_ex () (fun v => [av0, av0, av0, av0]) rfl
    · refine S_br 4 24 15 [.inr (2, r0), .inr (10, r1), .inl (.int x2), .inl (.int x3)] [] h rfl (fun _ => ?_) (fun _ => ?_)
      · exact S_ex () (fun v => [av0, av0, av0, av0]) rfl
      · refine S_grd 6 (21, [.inr (2, r0), .inr (10, r1), .inl (.int x2), .inl (.int x3)], [.inl (.int (h.1 10 r1 x3.toNatClampNeg)), .inl (.int x3), .inr (3, r0)], h) rfl (fun _ => ?_)
        refine S_grd 1 (22, [.inr (2, r0), .inr (10, r1), .inl (.int x2), .inl (.int x3)], [], (hsI h 3 r0 x3.toNatClampNeg (h.1 10 r1 x3.toNatClampNeg))) rfl (fun _ => ?_)
        refine S_blk 2 (5, [.inr (2, r0), .inr (10, r1), .inl (.int x2), .inl (.int (x3 + (1 : Int32)))], [], (hsI h 3 r0 x3.toNatClampNeg (h.1 10 r1 x3.toNatClampNeg))) rfl ?_
        refine S_nrm [.inr (2, r0), .inr (10, r1), .inl (.int x2), .inl (.int (x3 + (1 : Int32)))] rfl ?_
        exact hrc (x3 + (1 : Int32)) (hsI h 3 r0 x3.toNatClampNeg (h.1 10 r1 x3.toNatClampNeg))
theorem sl_X5_take_trail_5    (r0 : Nat) (r1 : Nat) (x2 : Int32) : ∀ (F : Nat) (x3 : Int32) (h : AH), Sim PP (2) k_X5_take (5, [.inr (2, r0), .inr (10, r1), .inl (.int x2), .inl (.int x3)], [], h) (l_X5_take_trail_5 F r0 r1 x2 x3 h) (fE PP (2) k_X5_take 24 (fun v => [av0, av0, av0, av0])) := by
  intro F
  induction F with
  | zero => intro x3 h; exact S_none
  | succ F ih => intro x3 h; exact sb_X5_take_trail_5 (l_X5_take_trail_5 F) r0 r1 x2 x3 ih h
theorem sc_X5_take_trail_24      (h : AH) : Sim PP (2) k_X5_take (24, [av0, av0, av0, av0], [], h) (c_X5_take_trail_24   h) fV := by
  unfold c_X5_take_trail_24
  exact S_rv 0 (24, [av0, av0, av0, av0], [], h) rfl rfl
theorem s_X5_take_trail (r0 : Nat) (r1 : Nat) (x2 : Int32) (h : AH) : Sim PP (2) k_X5_take (0, [.inr (2, r0), .inr (10, r1), .inl (.int x2), av0], [], h) (f_X5_take_trail r0 r1 x2 h) fV := by
  unfold f_X5_take_trail
  refine S_dv 2 2 41 1 [.inr (2, r0), .inr (10, r1), .inl (.int x2), av0] [.inl (.int x2), .inr (2, r0)] [.inr (2, r0), .inl (.int x2)] [.inr (2, r0), .inr (10, r1), .inl (.int x2), av0] [] h rfl rfl pp_41 (by decide) (s_X5_renew r0 x2 h) (fun _ h2 => ?_)
  refine S_blk 2 (5, [.inr (2, r0), .inr (10, r1), .inl (.int x2), .inl (.int (0 : Int32))], [], h2) rfl ?_
  refine S_nrm [.inr (2, r0), .inr (10, r1), .inl (.int x2), .inl (.int (0 : Int32))] rfl ?_
  refine S_lp 24 (fun v => [av0, av0, av0, av0]) (sl_X5_take_trail_5 r0 r1 x2 FU (0 : Int32) h2) (fun v h => ?_)
  exact sc_X5_take_trail_24 h
theorem s_X11_asks (x1 : Int32) (h : AH) : Sim PP (3) k_X11_asks (0, [.inr (0, 0), .inl (.int x1)], [], h) (f_X11_asks x1 h) fI := by
  unfold f_X11_asks
  refine S_di 1 1 132 0 [.inr (0, 0), .inl (.int x1)] [.inl (.int x1)] [.inl (.int x1)] [.inr (0, 0), .inl (.int x1)] [] h rfl rfl pp_132 (by decide) (s_X11_isRow x1 h) (fun y1 h2 => ?_)
  refine S_br 1 3 5 [.inr (0, 0), .inl (.int x1)] [] h2 rfl (fun _ => ?_) (fun _ => ?_)
  · exact S_ri 1 (4, [.inr (0, 0), .inl (.int x1)], [.inl (.int (-1 : Int32))], h2) rfl rfl
  · refine S_di 2 7 56 0 [.inr (0, 0), .inl (.int x1)] [.inr (8, 3)] [.inr (8, 3)] [.inr (0, 0), .inl (.int x1)] [] h2 rfl rfl pp_56 (by decide) (s_X7_hasEvening 3 h2) (fun y3 h4 => ?_)
    refine S_br 1 9 11 [.inr (0, 0), .inl (.int x1)] [] h4 rfl (fun _ => ?_) (fun _ => ?_)
    · exact S_ri 1 (10, [.inr (0, 0), .inl (.int x1)], [.inl (.int (-4 : Int32))], h4) rfl rfl
    · refine S_grd 4 (15, [.inr (0, 0), .inl (.int x1)], [.inr (2, (x1.toNatClampNeg))], h4) rfl (fun _ => ?_)
      refine S_dv 6 21 42 2 [.inr (0, 0), .inl (.int x1)] [.inl (.int (h4.1 8 3 2)), .inr (10, 3), .inr (2, (x1.toNatClampNeg))] [.inr (2, (x1.toNatClampNeg)), .inr (10, 3), .inl (.int (h4.1 8 3 2)), av0] [.inr (0, 0), .inl (.int x1)] [] h4 rfl rfl pp_42 (by decide) (s_X5_take_trail (x1.toNatClampNeg) 3 (h4.1 8 3 2) h4) (fun _ h6 => ?_)
      exact S_ri 3 (25, [.inr (0, 0), .inl (.int x1)], [.inl (.int (h6.1 8 3 2))], h6) rfl rfl
theorem s_X12_lesser (x0 : Int32) (x1 : Int32) (h : AH) : Sim PP (0) k_X12_lesser (0, [.inl (.int x0), .inl (.int x1)], [], h) (f_X12_lesser x0 x1 h) fI := by
  unfold f_X12_lesser
  refine S_br 3 5 3 [.inl (.int x0), .inl (.int x1)] [] h rfl (fun _ => ?_) (fun _ => ?_)
  · exact S_ri 1 (6, [.inl (.int x0), .inl (.int x1)], [.inl (.int x1)], h) rfl rfl
  · exact S_ri 2 (6, [.inl (.int x0), .inl (.int x1)], [.inl (.int x0)], h) rfl rfl
theorem sb_X12_layRow_m_askedOf_7  (rc : Int32 → Int32 → Int32 → AH → Option (Unit × AH)) (x1 : Int32) (x3 : Int32) (x4 : Int32) (hrc : ∀ (x4 : Int32) (h : AH), Sim PP (0) k_X12_layRow (7, [.inr (34, 0), .inl (.int x1), .inr (49, 0), .inl (.int x3), .inl (.int x4)], [], h) (rc x1 x3 x4 h) (fE PP (0) k_X12_layRow 28 (fun v => [av0, av0, av0, av0, av0])))  (h : AH) : Sim PP (0) k_X12_layRow (7, [.inr (34, 0), .inl (.int x1), .inr (49, 0), .inl (.int x3), .inl (.int x4)], [], h) (b_X12_layRow_m_askedOf_7 rc x1 x3 x4 h) (fE PP (0) k_X12_layRow 28 (fun v => [av0, av0, av0, av0, av0])) := by
  unfold b_X12_layRow_m_askedOf_7
  refine S_br 3 28 10 [.inr (34, 0), .inl (.int x1), .inr (49, 0), .inl (.int x3), .inl (.int x4)] [] h rfl (fun _ => ?_) (fun _ => ?_)
  · exact S_ex () (fun v => [av0, av0, av0, av0, av0]) rfl
  · refine S_br 10 24 20 [.inr (34, 0), .inl (.int x1), .inr (49, 0), .inl (.int x3), .inl (.int x4)] [.inl (.int (((40 : Int32) * x1) + x4)), .inr (37, 0)] h rfl (fun _ => ?_) (fun _ => ?_)
    · refine S_grd 2 (26, [.inr (34, 0), .inl (.int x1), .inr (49, 0), .inl (.int x3), .inl (.int x4)], [], (hsI h 37 0 (((40 : Int32) * x1) + x4).toNatClampNeg (0 : Int32))) rfl (fun _ => ?_)
      refine S_blk 2 (7, [.inr (34, 0), .inl (.int x1), .inr (49, 0), .inl (.int x3), .inl (.int (x4 + (1 : Int32)))], [], (hsI h 37 0 (((40 : Int32) * x1) + x4).toNatClampNeg (0 : Int32))) rfl ?_
      refine S_nrm [.inr (34, 0), .inl (.int x1), .inr (49, 0), .inl (.int x3), .inl (.int (x4 + (1 : Int32)))] rfl ?_
      exact hrc (x4 + (1 : Int32)) (hsI h 37 0 (((40 : Int32) * x1) + x4).toNatClampNeg (0 : Int32))
    · refine S_grd 3 (23, [.inr (34, 0), .inl (.int x1), .inr (49, 0), .inl (.int x3), .inl (.int x4)], [.inl (.int (h.1 49 0 x4.toNatClampNeg)), .inl (.int (((40 : Int32) * x1) + x4)), .inr (37, 0)], h) rfl (fun _ => ?_)
      refine S_grd 2 (26, [.inr (34, 0), .inl (.int x1), .inr (49, 0), .inl (.int x3), .inl (.int x4)], [], (hsI h 37 0 (((40 : Int32) * x1) + x4).toNatClampNeg (h.1 49 0 x4.toNatClampNeg))) rfl (fun _ => ?_)
      refine S_blk 2 (7, [.inr (34, 0), .inl (.int x1), .inr (49, 0), .inl (.int x3), .inl (.int (x4 + (1 : Int32)))], [], (hsI h 37 0 (((40 : Int32) * x1) + x4).toNatClampNeg (h.1 49 0 x4.toNatClampNeg))) rfl ?_
      refine S_nrm [.inr (34, 0), .inl (.int x1), .inr (49, 0), .inl (.int x3), .inl (.int (x4 + (1 : Int32)))] rfl ?_
      exact hrc (x4 + (1 : Int32)) (hsI h 37 0 (((40 : Int32) * x1) + x4).toNatClampNeg (h.1 49 0 x4.toNatClampNeg))
theorem sl_X12_layRow_m_askedOf_7    (x1 : Int32) (x3 : Int32) : ∀ (F : Nat) (x4 : Int32) (h : AH), Sim PP (0) k_X12_layRow (7, [.inr (34, 0), .inl (.int x1), .inr (49, 0), .inl (.int x3), .inl (.int x4)], [], h) (l_X12_layRow_m_askedOf_7 F x1 x3 x4 h) (fE PP (0) k_X12_layRow 28 (fun v => [av0, av0, av0, av0, av0])) := by
  intro F
  induction F with
  | zero => intro x4 h; exact S_none
  | succ F ih => intro x4 h; exact sb_X12_layRow_m_askedOf_7 (l_X12_layRow_m_askedOf_7 F) x1 x3 x4 ih h
theorem sc_X12_layRow_m_askedOf_28      (h : AH) : Sim PP (0) k_X12_layRow (28, [av0, av0, av0, av0, av0], [], h) (c_X12_layRow_m_askedOf_28   h) fV := by
  unfold c_X12_layRow_m_askedOf_28
  exact S_rv 0 (28, [av0, av0, av0, av0, av0], [], h) rfl rfl
theorem s_X12_layRow_m_askedOf (x1 : Int32) (x3 : Int32) (h : AH) : Sim PP (0) k_X12_layRow (0, [.inr (34, 0), .inl (.int x1), .inr (49, 0), .inl (.int x3), av0], [], h) (f_X12_layRow_m_askedOf x1 x3 h) fV := by
  unfold f_X12_layRow_m_askedOf
  refine S_grd 5 (5, [.inr (34, 0), .inl (.int x1), .inr (49, 0), .inl (.int x3), av0], [], (hsI h 36 0 x1.toNatClampNeg x3)) rfl (fun _ => ?_)
  refine S_blk 2 (7, [.inr (34, 0), .inl (.int x1), .inr (49, 0), .inl (.int x3), .inl (.int (0 : Int32))], [], (hsI h 36 0 x1.toNatClampNeg x3)) rfl ?_
  refine S_nrm [.inr (34, 0), .inl (.int x1), .inr (49, 0), .inl (.int x3), .inl (.int (0 : Int32))] rfl ?_
  refine S_lp 28 (fun v => [av0, av0, av0, av0, av0]) (sl_X12_layRow_m_askedOf_7 x1 x3 FU (0 : Int32) (hsI h 36 0 x1.toNatClampNeg x3)) (fun v h => ?_)
  exact sc_X12_layRow_m_askedOf_28 h
theorem s_X12_asks (x1 : Int32) (h : AH) : Sim PP (2) k_X12_asks (0, [.inr (34, 0), .inl (.int x1), av0], [], h) (f_X12_asks x1 h) fI := by
  unfold f_X12_asks
  refine S_di 1 1 167 1 [.inr (34, 0), .inl (.int x1), av0] [.inl (.int x1)] [.inl (.int x1)] [.inr (34, 0), .inl (.int x1), av0] [] h rfl rfl pp_167 (by decide) (s_X12_isRow x1 h) (fun y1 h2 => ?_)
  refine S_br 1 3 5 [.inr (34, 0), .inl (.int x1), av0] [] h2 rfl (fun _ => ?_) (fun _ => ?_)
  · exact S_ri 1 (4, [.inr (34, 0), .inl (.int x1), av0], [.inl (.int (-1 : Int32))], h2) rfl rfl
  · refine S_br 3 8 10 [.inr (34, 0), .inl (.int x1), av0] [] h2 rfl (fun _ => ?_) (fun _ => ?_)
    · exact S_ri 1 (9, [.inr (34, 0), .inl (.int x1), av0], [.inl (.int (-4 : Int32))], h2) rfl rfl
    · refine S_di 3 13 157 0 [.inr (34, 0), .inl (.int x1), av0] [.inl (.int (40 : Int32)), .inl (.int (h2.1 34 0 27))] [.inl (.int (h2.1 34 0 27)), .inl (.int (40 : Int32))] [.inr (34, 0), .inl (.int x1), av0] [] h2 rfl rfl pp_157 (by decide) (s_X12_lesser (h2.1 34 0 27) (40 : Int32) h2) (fun y3 h4 => ?_)
      refine S_dv 6 20 179 0 [.inr (34, 0), .inl (.int x1), .inl (.int y3)] [.inl (.int y3), .inr (49, 0), .inl (.int x1), .inr (34, 0)] [.inr (34, 0), .inl (.int x1), .inr (49, 0), .inl (.int y3), av0] [.inr (34, 0), .inl (.int x1), .inl (.int y3)] [] h4 rfl rfl pp_179 (by decide) (s_X12_layRow_m_askedOf x1 y3 h4) (fun _ h6 => ?_)
      exact S_ri 2 (23, [.inr (34, 0), .inl (.int x1), .inl (.int y3)], [.inl (.int (h6.1 34 0 27))], h6) rfl rfl
theorem s_X11_isImage (x0 : Int32) (h : AH) : Sim PP (0) k_X11_isImage (0, [.inl (.int x0)], [], h) (f_X11_isImage x0 h) fI := by
  unfold f_X11_isImage
  refine S_br 2 7 2 [.inl (.int x0)] [] h rfl (fun _ => ?_) (fun _ => ?_)
  · exact S_ri 1 (8, [.inl (.int x0)], [.inl (.int (0 : Int32))], h) rfl rfl
  · refine S_br 3 7 5 [.inl (.int x0)] [] h rfl (fun _ => ?_) (fun _ => ?_)
    · exact S_ri 1 (8, [.inl (.int x0)], [.inl (.int (0 : Int32))], h) rfl rfl
    · exact S_ri 2 (8, [.inl (.int x0)], [.inl (.int (1 : Int32))], h) rfl rfl
theorem s_X7_become (r0 : Nat) (r1 : Nat) (h : AH) : Sim PP (0) k_X7_become (0, [.inr (8, r0), .inr (8, r1)], [], h) (f_X7_become r0 r1 h) fV := by
  unfold f_X7_become
  refine S_gt 24 (c := (¬ (0 : Int32) < 0 ∧ ¬ (0 : Int32) < 0 ∧ ¬ (14 : Int32) < 0) ∧ (0 : Int32).toNatClampNeg + (14 : Int32).toNatClampNeg ≤ 14 ∧ (0 : Int32).toNatClampNeg + (14 : Int32).toNatClampNeg ≤ 14) (24, [.inr (8, r0), .inr (8, r1)], [], (hcp (hsI (hsI (hsI (hsI h 8 r0 2 (h.1 8 r1 2)) 8 r0 3 ((hsI h 8 r0 2 (h.1 8 r1 2)).1 8 r1 3)) 8 r0 4 ((hsI (hsI h 8 r0 2 (h.1 8 r1 2)) 8 r0 3 ((hsI h 8 r0 2 (h.1 8 r1 2)).1 8 r1 3)).1 8 r1 4)) 8 r0 5 ((hsI (hsI (hsI h 8 r0 2 (h.1 8 r1 2)) 8 r0 3 ((hsI h 8 r0 2 (h.1 8 r1 2)).1 8 r1 3)) 8 r0 4 ((hsI (hsI h 8 r0 2 (h.1 8 r1 2)) 8 r0 3 ((hsI h 8 r0 2 (h.1 8 r1 2)).1 8 r1 3)).1 8 r1 4)).1 8 r1 5)) 9 r1 9 r0 (0 : Int32).toNatClampNeg (0 : Int32).toNatClampNeg (14 : Int32).toNatClampNeg)) rfl (by decide) ?_
  refine S_gt 8 (c := (¬ (0 : Int32) < 0 ∧ ¬ (0 : Int32) < 0 ∧ ¬ (40 : Int32) < 0) ∧ (0 : Int32).toNatClampNeg + (40 : Int32).toNatClampNeg ≤ 40 ∧ (0 : Int32).toNatClampNeg + (40 : Int32).toNatClampNeg ≤ 40) (32, [.inr (8, r0), .inr (8, r1)], [], (hcp (hcp (hsI (hsI (hsI (hsI h 8 r0 2 (h.1 8 r1 2)) 8 r0 3 ((hsI h 8 r0 2 (h.1 8 r1 2)).1 8 r1 3)) 8 r0 4 ((hsI (hsI h 8 r0 2 (h.1 8 r1 2)) 8 r0 3 ((hsI h 8 r0 2 (h.1 8 r1 2)).1 8 r1 3)).1 8 r1 4)) 8 r0 5 ((hsI (hsI (hsI h 8 r0 2 (h.1 8 r1 2)) 8 r0 3 ((hsI h 8 r0 2 (h.1 8 r1 2)).1 8 r1 3)) 8 r0 4 ((hsI (hsI h 8 r0 2 (h.1 8 r1 2)) 8 r0 3 ((hsI h 8 r0 2 (h.1 8 r1 2)).1 8 r1 3)).1 8 r1 4)).1 8 r1 5)) 9 r1 9 r0 (0 : Int32).toNatClampNeg (0 : Int32).toNatClampNeg (14 : Int32).toNatClampNeg) 10 r1 10 r0 (0 : Int32).toNatClampNeg (0 : Int32).toNatClampNeg (40 : Int32).toNatClampNeg)) rfl (by decide) ?_
  exact S_rv 0 (32, [.inr (8, r0), .inr (8, r1)], [], (hcp (hcp (hsI (hsI (hsI (hsI h 8 r0 2 (h.1 8 r1 2)) 8 r0 3 ((hsI h 8 r0 2 (h.1 8 r1 2)).1 8 r1 3)) 8 r0 4 ((hsI (hsI h 8 r0 2 (h.1 8 r1 2)) 8 r0 3 ((hsI h 8 r0 2 (h.1 8 r1 2)).1 8 r1 3)).1 8 r1 4)) 8 r0 5 ((hsI (hsI (hsI h 8 r0 2 (h.1 8 r1 2)) 8 r0 3 ((hsI h 8 r0 2 (h.1 8 r1 2)).1 8 r1 3)) 8 r0 4 ((hsI (hsI h 8 r0 2 (h.1 8 r1 2)) 8 r0 3 ((hsI h 8 r0 2 (h.1 8 r1 2)).1 8 r1 3)).1 8 r1 4)).1 8 r1 5)) 9 r1 9 r0 (0 : Int32).toNatClampNeg (0 : Int32).toNatClampNeg (14 : Int32).toNatClampNeg) 10 r1 10 r0 (0 : Int32).toNatClampNeg (0 : Int32).toNatClampNeg (40 : Int32).toNatClampNeg)) rfl rfl
theorem s_X11_image (x1 : Int32) (h : AH) : Sim PP (1) k_X11_image (0, [.inr (0, 0), .inl (.int x1)], [], h) (f_X11_image x1 h) fI := by
  unfold f_X11_image
  refine S_di 1 1 134 0 [.inr (0, 0), .inl (.int x1)] [.inl (.int x1)] [.inl (.int x1)] [.inr (0, 0), .inl (.int x1)] [] h rfl rfl pp_134 (by decide) (s_X11_isImage x1 h) (fun y1 h2 => ?_)
  refine S_br 1 3 5 [.inr (0, 0), .inl (.int x1)] [] h2 rfl (fun _ => ?_) (fun _ => ?_)
  · exact S_ri 1 (4, [.inr (0, 0), .inl (.int x1)], [.inl (.int (-1 : Int32))], h2) rfl rfl
  · refine S_br 4 9 11 [.inr (0, 0), .inl (.int x1)] [] h2 rfl (fun _ => ?_) (fun _ => ?_)
    · exact S_ri 1 (10, [.inr (0, 0), .inl (.int x1)], [.inl (.int (-4 : Int32))], h2) rfl rfl
    · refine S_grd 4 (15, [.inr (0, 0), .inl (.int x1)], [.inr (8, (x1.toNatClampNeg))], h2) rfl (fun _ => ?_)
      refine S_dv 2 17 55 0 [.inr (0, 0), .inl (.int x1)] [.inr (8, 3), .inr (8, (x1.toNatClampNeg))] [.inr (8, (x1.toNatClampNeg)), .inr (8, 3)] [.inr (0, 0), .inl (.int x1)] [] h2 rfl rfl pp_55 (by decide) (s_X7_become (x1.toNatClampNeg) 3 h2) (fun _ h4 => ?_)
      refine S_grd 4 (22, [.inr (0, 0), .inl (.int x1)], [.inr (8, (x1.toNatClampNeg))], h4) rfl (fun _ => ?_)
      refine S_di 4 26 57 0 [.inr (0, 0), .inl (.int x1)] [.inr (8, 3)] [.inr (8, 3)] [.inr (0, 0), .inl (.int x1)] [] (hsI h4 8 (x1.toNatClampNeg) 6 (1 : Int32)) rfl rfl pp_57 (by decide) (s_X7_answers 3 (hsI h4 8 (x1.toNatClampNeg) 6 (1 : Int32))) (fun y5 h6 => ?_)
      exact S_ri 0 (27, [.inr (0, 0), .inl (.int x1)], [.inl (.int y5)], h6) rfl rfl
theorem sb_X12_image_53  (rc : Int32 → Int32 → AH → Option (Unit × AH)) (x1 : Int32) (x2 : Int32) (hrc : ∀ (x2 : Int32) (h : AH), Sim PP (1) k_X12_image (53, [.inr (34, 0), .inl (.int x1), .inl (.int x2)], [], h) (rc x1 x2 h) (fE PP (1) k_X12_image 71 (fun v => [.inr (34, 0), .inl (.int x1), av0])))  (h : AH) : Sim PP (1) k_X12_image (53, [.inr (34, 0), .inl (.int x1), .inl (.int x2)], [], h) (b_X12_image_53 rc x1 x2 h) (fE PP (1) k_X12_image 71 (fun v => [.inr (34, 0), .inl (.int x1), av0])) := by
  unfold b_X12_image_53
  refine S_br 4 71 57 [.inr (34, 0), .inl (.int x1), .inl (.int x2)] [] h rfl (fun _ => ?_) (fun _ => ?_)
  · exact S_ex () (fun v => [.inr (34, 0), .inl (.int x1), av0]) rfl
  · refine S_grd 11 (68, [.inr (34, 0), .inl (.int x1), .inl (.int x2)], [.inl (.int (h.1 49 0 x2.toNatClampNeg)), .inl (.int (((41 : Int32) * x1) + x2)), .inr (52, 0)], h) rfl (fun _ => ?_)
    refine S_grd 1 (69, [.inr (34, 0), .inl (.int x1), .inl (.int x2)], [], (hsI h 52 0 (((41 : Int32) * x1) + x2).toNatClampNeg (h.1 49 0 x2.toNatClampNeg))) rfl (fun _ => ?_)
    refine S_blk 2 (53, [.inr (34, 0), .inl (.int x1), .inl (.int (x2 + (1 : Int32)))], [], (hsI h 52 0 (((41 : Int32) * x1) + x2).toNatClampNeg (h.1 49 0 x2.toNatClampNeg))) rfl ?_
    refine S_nrm [.inr (34, 0), .inl (.int x1), .inl (.int (x2 + (1 : Int32)))] rfl ?_
    exact hrc (x2 + (1 : Int32)) (hsI h 52 0 (((41 : Int32) * x1) + x2).toNatClampNeg (h.1 49 0 x2.toNatClampNeg))
theorem sl_X12_image_53    (x1 : Int32) : ∀ (F : Nat) (x2 : Int32) (h : AH), Sim PP (1) k_X12_image (53, [.inr (34, 0), .inl (.int x1), .inl (.int x2)], [], h) (l_X12_image_53 F x1 x2 h) (fE PP (1) k_X12_image 71 (fun v => [.inr (34, 0), .inl (.int x1), av0])) := by
  intro F
  induction F with
  | zero => intro x2 h; exact S_none
  | succ F ih => intro x2 h; exact sb_X12_image_53 (l_X12_image_53 F) x1 x2 ih h
theorem sb_X12_image_73  (rc : Int32 → Int32 → AH → Option (Unit × AH)) (x1 : Int32) (x2 : Int32) (hrc : ∀ (x2 : Int32) (h : AH), Sim PP (1) k_X12_image (73, [.inr (34, 0), .inl (.int x1), .inl (.int x2)], [], h) (rc x1 x2 h) (fE PP (1) k_X12_image 91 (fun v => [.inr (34, 0), av0, av0])))  (h : AH) : Sim PP (1) k_X12_image (73, [.inr (34, 0), .inl (.int x1), .inl (.int x2)], [], h) (b_X12_image_73 rc x1 x2 h) (fE PP (1) k_X12_image 91 (fun v => [.inr (34, 0), av0, av0])) := by
  unfold b_X12_image_73
  refine S_br 4 91 77 [.inr (34, 0), .inl (.int x1), .inl (.int x2)] [] h rfl (fun _ => ?_) (fun _ => ?_)
  · exact S_ex () (fun v => [.inr (34, 0), av0, av0]) rfl
  · refine S_grd 11 (88, [.inr (34, 0), .inl (.int x1), .inl (.int x2)], [.inl (.int (h.1 44 0 x2.toNatClampNeg)), .inl (.int (((14 : Int32) * x1) + x2)), .inr (54, 0)], h) rfl (fun _ => ?_)
    refine S_grd 1 (89, [.inr (34, 0), .inl (.int x1), .inl (.int x2)], [], (hsI h 54 0 (((14 : Int32) * x1) + x2).toNatClampNeg (h.1 44 0 x2.toNatClampNeg))) rfl (fun _ => ?_)
    refine S_blk 2 (73, [.inr (34, 0), .inl (.int x1), .inl (.int (x2 + (1 : Int32)))], [], (hsI h 54 0 (((14 : Int32) * x1) + x2).toNatClampNeg (h.1 44 0 x2.toNatClampNeg))) rfl ?_
    refine S_nrm [.inr (34, 0), .inl (.int x1), .inl (.int (x2 + (1 : Int32)))] rfl ?_
    exact hrc (x2 + (1 : Int32)) (hsI h 54 0 (((14 : Int32) * x1) + x2).toNatClampNeg (h.1 44 0 x2.toNatClampNeg))
theorem sl_X12_image_73    (x1 : Int32) : ∀ (F : Nat) (x2 : Int32) (h : AH), Sim PP (1) k_X12_image (73, [.inr (34, 0), .inl (.int x1), .inl (.int x2)], [], h) (l_X12_image_73 F x1 x2 h) (fE PP (1) k_X12_image 91 (fun v => [.inr (34, 0), av0, av0])) := by
  intro F
  induction F with
  | zero => intro x2 h; exact S_none
  | succ F ih => intro x2 h; exact sb_X12_image_73 (l_X12_image_73 F) x1 x2 ih h
theorem sc_X12_image_91      (h : AH) : Sim PP (1) k_X12_image (91, [.inr (34, 0), av0, av0], [], h) (c_X12_image_91   h) fI := by
  unfold c_X12_image_91
  refine S_di 1 92 222 0 [.inr (34, 0), av0, av0] [.inr (34, 0)] [.inr (34, 0)] [.inr (34, 0), av0, av0] [] h rfl rfl pp_222 (by decide) (s_X12_answerMany  h) (fun y1 h2 => ?_)
  exact S_ri 0 (93, [.inr (34, 0), av0, av0], [.inl (.int y1)], h2) rfl rfl
theorem sc_X12_image_71    (x1 : Int32)  (h : AH) : Sim PP (1) k_X12_image (71, [.inr (34, 0), .inl (.int x1), av0], [], h) (c_X12_image_71  x1 h) fI := by
  unfold c_X12_image_71
  refine S_blk 2 (73, [.inr (34, 0), .inl (.int x1), .inl (.int (0 : Int32))], [], h) rfl ?_
  refine S_nrm [.inr (34, 0), .inl (.int x1), .inl (.int (0 : Int32))] rfl ?_
  refine S_lp 91 (fun v => [.inr (34, 0), av0, av0]) (sl_X12_image_73 x1 FU (0 : Int32) h) (fun v h => ?_)
  exact sc_X12_image_91 h
theorem s_X12_image (x1 : Int32) (h : AH) : Sim PP (1) k_X12_image (0, [.inr (34, 0), .inl (.int x1), av0], [], h) (f_X12_image x1 h) fI := by
  unfold f_X12_image
  refine S_di 3 3 154 0 [.inr (34, 0), .inl (.int x1), av0] [.inl (.int (2 : Int32)), .inl (.int (0 : Int32)), .inl (.int x1)] [.inl (.int x1), .inl (.int (0 : Int32)), .inl (.int (2 : Int32))] [.inr (34, 0), .inl (.int x1), av0] [] h rfl rfl pp_154 (by decide) (s_X12_in x1 (0 : Int32) (2 : Int32) h) (fun y1 h2 => ?_)
  refine S_br 1 5 7 [.inr (34, 0), .inl (.int x1), av0] [] h2 rfl (fun _ => ?_) (fun _ => ?_)
  · exact S_ri 1 (6, [.inr (34, 0), .inl (.int x1), av0], [.inl (.int (-1 : Int32))], h2) rfl rfl
  · refine S_br 3 10 12 [.inr (34, 0), .inl (.int x1), av0] [] h2 rfl (fun _ => ?_) (fun _ => ?_)
    · exact S_ri 1 (11, [.inr (34, 0), .inl (.int x1), av0], [.inl (.int (-4 : Int32))], h2) rfl rfl
    · refine S_grd 5 (17, [.inr (34, 0), .inl (.int x1), av0], [], (hsI h2 50 0 x1.toNatClampNeg (zn (1 : Int32)))) rfl (fun _ => ?_)
      refine S_grd 6 (23, [.inr (34, 0), .inl (.int x1), av0], [], (hsI (hsI h2 50 0 x1.toNatClampNeg (zn (1 : Int32))) 51 0 x1.toNatClampNeg ((hsI h2 50 0 x1.toNatClampNeg (zn (1 : Int32))).1 34 0 27))) rfl (fun _ => ?_)
      refine S_grd 8 (31, [.inr (34, 0), .inl (.int x1), av0], [], (hsI (hsI (hsI h2 50 0 x1.toNatClampNeg (zn (1 : Int32))) 51 0 x1.toNatClampNeg ((hsI h2 50 0 x1.toNatClampNeg (zn (1 : Int32))).1 34 0 27)) 53 0 ((3 : Int32) * x1).toNatClampNeg ((hsI (hsI h2 50 0 x1.toNatClampNeg (zn (1 : Int32))) 51 0 x1.toNatClampNeg ((hsI h2 50 0 x1.toNatClampNeg (zn (1 : Int32))).1 34 0 27)).1 34 0 16))) rfl (fun _ => ?_)
      refine S_grd 10 (41, [.inr (34, 0), .inl (.int x1), av0], [], (hsI (hsI (hsI (hsI h2 50 0 x1.toNatClampNeg (zn (1 : Int32))) 51 0 x1.toNatClampNeg ((hsI h2 50 0 x1.toNatClampNeg (zn (1 : Int32))).1 34 0 27)) 53 0 ((3 : Int32) * x1).toNatClampNeg ((hsI (hsI h2 50 0 x1.toNatClampNeg (zn (1 : Int32))) 51 0 x1.toNatClampNeg ((hsI h2 50 0 x1.toNatClampNeg (zn (1 : Int32))).1 34 0 27)).1 34 0 16)) 53 0 (((3 : Int32) * x1) + (1 : Int32)).toNatClampNeg ((hsI (hsI (hsI h2 50 0 x1.toNatClampNeg (zn (1 : Int32))) 51 0 x1.toNatClampNeg ((hsI h2 50 0 x1.toNatClampNeg (zn (1 : Int32))).1 34 0 27)) 53 0 ((3 : Int32) * x1).toNatClampNeg ((hsI (hsI h2 50 0 x1.toNatClampNeg (zn (1 : Int32))) 51 0 x1.toNatClampNeg ((hsI h2 50 0 x1.toNatClampNeg (zn (1 : Int32))).1 34 0 27)).1 34 0 16)).1 34 0 17))) rfl (fun _ => ?_)
      refine S_grd 10 (51, [.inr (34, 0), .inl (.int x1), av0], [], (hsI (hsI (hsI (hsI (hsI h2 50 0 x1.toNatClampNeg (zn (1 : Int32))) 51 0 x1.toNatClampNeg ((hsI h2 50 0 x1.toNatClampNeg (zn (1 : Int32))).1 34 0 27)) 53 0 ((3 : Int32) * x1).toNatClampNeg ((hsI (hsI h2 50 0 x1.toNatClampNeg (zn (1 : Int32))) 51 0 x1.toNatClampNeg ((hsI h2 50 0 x1.toNatClampNeg (zn (1 : Int32))).1 34 0 27)).1 34 0 16)) 53 0 (((3 : Int32) * x1) + (1 : Int32)).toNatClampNeg ((hsI (hsI (hsI h2 50 0 x1.toNatClampNeg (zn (1 : Int32))) 51 0 x1.toNatClampNeg ((hsI h2 50 0 x1.toNatClampNeg (zn (1 : Int32))).1 34 0 27)) 53 0 ((3 : Int32) * x1).toNatClampNeg ((hsI (hsI h2 50 0 x1.toNatClampNeg (zn (1 : Int32))) 51 0 x1.toNatClampNeg ((hsI h2 50 0 x1.toNatClampNeg (zn (1 : Int32))).1 34 0 27)).1 34 0 16)).1 34 0 17)) 53 0 (((3 : Int32) * x1) + (2 : Int32)).toNatClampNeg ((hsI (hsI (hsI (hsI h2 50 0 x1.toNatClampNeg (zn (1 : Int32))) 51 0 x1.toNatClampNeg ((hsI h2 50 0 x1.toNatClampNeg (zn (1 : Int32))).1 34 0 27)) 53 0 ((3 : Int32) * x1).toNatClampNeg ((hsI (hsI h2 50 0 x1.toNatClampNeg (zn (1 : Int32))) 51 0 x1.toNatClampNeg ((hsI h2 50 0 x1.toNatClampNeg (zn (1 : Int32))).1 34 0 27)).1 34 0 16)) 53 0 (((3 : Int32) * x1) + (1 : Int32)).toNatClampNeg ((hsI (hsI (hsI h2 50 0 x1.toNatClampNeg (zn (1 : Int32))) 51 0 x1.toNatClampNeg ((hsI h2 50 0 x1.toNatClampNeg (zn (1 : Int32))).1 34 0 27)) 53 0 ((3 : Int32) * x1).toNatClampNeg ((hsI (hsI h2 50 0 x1.toNatClampNeg (zn (1 : Int32))) 51 0 x1.toNatClampNeg ((hsI h2 50 0 x1.toNatClampNeg (zn (1 : Int32))).1 34 0 27)).1 34 0 16)).1 34 0 17)).1 34 0 18))) rfl (fun _ => ?_)
      refine S_blk 2 (53, [.inr (34, 0), .inl (.int x1), .inl (.int (0 : Int32))], [], (hsI (hsI (hsI (hsI (hsI h2 50 0 x1.toNatClampNeg (zn (1 : Int32))) 51 0 x1.toNatClampNeg ((hsI h2 50 0 x1.toNatClampNeg (zn (1 : Int32))).1 34 0 27)) 53 0 ((3 : Int32) * x1).toNatClampNeg ((hsI (hsI h2 50 0 x1.toNatClampNeg (zn (1 : Int32))) 51 0 x1.toNatClampNeg ((hsI h2 50 0 x1.toNatClampNeg (zn (1 : Int32))).1 34 0 27)).1 34 0 16)) 53 0 (((3 : Int32) * x1) + (1 : Int32)).toNatClampNeg ((hsI (hsI (hsI h2 50 0 x1.toNatClampNeg (zn (1 : Int32))) 51 0 x1.toNatClampNeg ((hsI h2 50 0 x1.toNatClampNeg (zn (1 : Int32))).1 34 0 27)) 53 0 ((3 : Int32) * x1).toNatClampNeg ((hsI (hsI h2 50 0 x1.toNatClampNeg (zn (1 : Int32))) 51 0 x1.toNatClampNeg ((hsI h2 50 0 x1.toNatClampNeg (zn (1 : Int32))).1 34 0 27)).1 34 0 16)).1 34 0 17)) 53 0 (((3 : Int32) * x1) + (2 : Int32)).toNatClampNeg ((hsI (hsI (hsI (hsI h2 50 0 x1.toNatClampNeg (zn (1 : Int32))) 51 0 x1.toNatClampNeg ((hsI h2 50 0 x1.toNatClampNeg (zn (1 : Int32))).1 34 0 27)) 53 0 ((3 : Int32) * x1).toNatClampNeg ((hsI (hsI h2 50 0 x1.toNatClampNeg (zn (1 : Int32))) 51 0 x1.toNatClampNeg ((hsI h2 50 0 x1.toNatClampNeg (zn (1 : Int32))).1 34 0 27)).1 34 0 16)) 53 0 (((3 : Int32) * x1) + (1 : Int32)).toNatClampNeg ((hsI (hsI (hsI h2 50 0 x1.toNatClampNeg (zn (1 : Int32))) 51 0 x1.toNatClampNeg ((hsI h2 50 0 x1.toNatClampNeg (zn (1 : Int32))).1 34 0 27)) 53 0 ((3 : Int32) * x1).toNatClampNeg ((hsI (hsI h2 50 0 x1.toNatClampNeg (zn (1 : Int32))) 51 0 x1.toNatClampNeg ((hsI h2 50 0 x1.toNatClampNeg (zn (1 : Int32))).1 34 0 27)).1 34 0 16)).1 34 0 17)).1 34 0 18))) rfl ?_
      refine S_nrm [.inr (34, 0), .inl (.int x1), .inl (.int (0 : Int32))] rfl ?_
      refine S_lp 71 (fun v => [.inr (34, 0), .inl (.int x1), av0]) (sl_X12_image_53 x1 FU (0 : Int32) (hsI (hsI (hsI (hsI (hsI h2 50 0 x1.toNatClampNeg (zn (1 : Int32))) 51 0 x1.toNatClampNeg ((hsI h2 50 0 x1.toNatClampNeg (zn (1 : Int32))).1 34 0 27)) 53 0 ((3 : Int32) * x1).toNatClampNeg ((hsI (hsI h2 50 0 x1.toNatClampNeg (zn (1 : Int32))) 51 0 x1.toNatClampNeg ((hsI h2 50 0 x1.toNatClampNeg (zn (1 : Int32))).1 34 0 27)).1 34 0 16)) 53 0 (((3 : Int32) * x1) + (1 : Int32)).toNatClampNeg ((hsI (hsI (hsI h2 50 0 x1.toNatClampNeg (zn (1 : Int32))) 51 0 x1.toNatClampNeg ((hsI h2 50 0 x1.toNatClampNeg (zn (1 : Int32))).1 34 0 27)) 53 0 ((3 : Int32) * x1).toNatClampNeg ((hsI (hsI h2 50 0 x1.toNatClampNeg (zn (1 : Int32))) 51 0 x1.toNatClampNeg ((hsI h2 50 0 x1.toNatClampNeg (zn (1 : Int32))).1 34 0 27)).1 34 0 16)).1 34 0 17)) 53 0 (((3 : Int32) * x1) + (2 : Int32)).toNatClampNeg ((hsI (hsI (hsI (hsI h2 50 0 x1.toNatClampNeg (zn (1 : Int32))) 51 0 x1.toNatClampNeg ((hsI h2 50 0 x1.toNatClampNeg (zn (1 : Int32))).1 34 0 27)) 53 0 ((3 : Int32) * x1).toNatClampNeg ((hsI (hsI h2 50 0 x1.toNatClampNeg (zn (1 : Int32))) 51 0 x1.toNatClampNeg ((hsI h2 50 0 x1.toNatClampNeg (zn (1 : Int32))).1 34 0 27)).1 34 0 16)) 53 0 (((3 : Int32) * x1) + (1 : Int32)).toNatClampNeg ((hsI (hsI (hsI h2 50 0 x1.toNatClampNeg (zn (1 : Int32))) 51 0 x1.toNatClampNeg ((hsI h2 50 0 x1.toNatClampNeg (zn (1 : Int32))).1 34 0 27)) 53 0 ((3 : Int32) * x1).toNatClampNeg ((hsI (hsI h2 50 0 x1.toNatClampNeg (zn (1 : Int32))) 51 0 x1.toNatClampNeg ((hsI h2 50 0 x1.toNatClampNeg (zn (1 : Int32))).1 34 0 27)).1 34 0 16)).1 34 0 17)).1 34 0 18))) (fun v h => ?_)
      exact sc_X12_image_71 x1 h
theorem s_X11_on (x1 : Int32) (h : AH) : Sim PP (1) k_X11_on (0, [.inr (0, 0), .inl (.int x1)], [], h) (f_X11_on x1 h) fI := by
  unfold f_X11_on
  refine S_di 1 1 134 0 [.inr (0, 0), .inl (.int x1)] [.inl (.int x1)] [.inl (.int x1)] [.inr (0, 0), .inl (.int x1)] [] h rfl rfl pp_134 (by decide) (s_X11_isImage x1 h) (fun y1 h2 => ?_)
  refine S_br 1 3 5 [.inr (0, 0), .inl (.int x1)] [] h2 rfl (fun _ => ?_) (fun _ => ?_)
  · exact S_ri 1 (4, [.inr (0, 0), .inl (.int x1)], [.inl (.int (-1 : Int32))], h2) rfl rfl
  · refine S_grd 4 (9, [.inr (0, 0), .inl (.int x1)], [.inr (8, (x1.toNatClampNeg))], h2) rfl (fun _ => ?_)
    refine S_br 2 11 15 [.inr (0, 0), .inl (.int x1)] [] h2 rfl (fun _ => ?_) (fun _ => ?_)
    · refine S_di 2 13 131 0 [.inr (0, 0), .inl (.int x1)] [.inl (.int (1 : Int32)), .inr (0, 0)] [.inr (0, 0), .inl (.int (1 : Int32))] [.inr (0, 0), .inl (.int x1)] [] h2 rfl rfl pp_131 (by decide) (s_X11_refuse (1 : Int32) h2) (fun y3 h4 => ?_)
      exact S_ri 0 (14, [.inr (0, 0), .inl (.int x1)], [.inl (.int y3)], h4) rfl rfl
    · refine S_grd 6 (21, [.inr (0, 0), .inl (.int x1)], [.inr (8, (x1.toNatClampNeg)), .inr (8, 3)], h2) rfl (fun _ => ?_)
      refine S_dv 0 21 55 0 [.inr (0, 0), .inl (.int x1)] [.inr (8, (x1.toNatClampNeg)), .inr (8, 3)] [.inr (8, 3), .inr (8, (x1.toNatClampNeg))] [.inr (0, 0), .inl (.int x1)] [] h2 rfl rfl pp_55 (by decide) (s_X7_become 3 (x1.toNatClampNeg) h2) (fun _ h6 => ?_)
      refine S_di 2 24 57 0 [.inr (0, 0), .inl (.int x1)] [.inr (8, 3)] [.inr (8, 3)] [.inr (0, 0), .inl (.int x1)] [] h6 rfl rfl pp_57 (by decide) (s_X7_answers 3 h6) (fun y7 h8 => ?_)
      exact S_ri 0 (25, [.inr (0, 0), .inl (.int x1)], [.inl (.int y7)], h8) rfl rfl
theorem sb_X12_on_52  (rc : Int32 → Int32 → AH → Option (Unit × AH)) (x1 : Int32) (x2 : Int32) (hrc : ∀ (x2 : Int32) (h : AH), Sim PP (1) k_X12_on (52, [.inr (34, 0), .inl (.int x1), .inl (.int x2)], [], h) (rc x1 x2 h) (fE PP (1) k_X12_on 70 (fun v => [.inr (34, 0), .inl (.int x1), av0])))  (h : AH) : Sim PP (1) k_X12_on (52, [.inr (34, 0), .inl (.int x1), .inl (.int x2)], [], h) (b_X12_on_52 rc x1 x2 h) (fE PP (1) k_X12_on 70 (fun v => [.inr (34, 0), .inl (.int x1), av0])) := by
  unfold b_X12_on_52
  refine S_br 4 70 56 [.inr (34, 0), .inl (.int x1), .inl (.int x2)] [] h rfl (fun _ => ?_) (fun _ => ?_)
  · exact S_ex () (fun v => [.inr (34, 0), .inl (.int x1), av0]) rfl
  · refine S_grd 11 (67, [.inr (34, 0), .inl (.int x1), .inl (.int x2)], [.inl (.int (h.1 52 0 (((41 : Int32) * x1) + x2).toNatClampNeg)), .inl (.int x2), .inr (49, 0)], h) rfl (fun _ => ?_)
    refine S_grd 1 (68, [.inr (34, 0), .inl (.int x1), .inl (.int x2)], [], (hsI h 49 0 x2.toNatClampNeg (h.1 52 0 (((41 : Int32) * x1) + x2).toNatClampNeg))) rfl (fun _ => ?_)
    refine S_blk 2 (52, [.inr (34, 0), .inl (.int x1), .inl (.int (x2 + (1 : Int32)))], [], (hsI h 49 0 x2.toNatClampNeg (h.1 52 0 (((41 : Int32) * x1) + x2).toNatClampNeg))) rfl ?_
    refine S_nrm [.inr (34, 0), .inl (.int x1), .inl (.int (x2 + (1 : Int32)))] rfl ?_
    exact hrc (x2 + (1 : Int32)) (hsI h 49 0 x2.toNatClampNeg (h.1 52 0 (((41 : Int32) * x1) + x2).toNatClampNeg))
theorem sl_X12_on_52    (x1 : Int32) : ∀ (F : Nat) (x2 : Int32) (h : AH), Sim PP (1) k_X12_on (52, [.inr (34, 0), .inl (.int x1), .inl (.int x2)], [], h) (l_X12_on_52 F x1 x2 h) (fE PP (1) k_X12_on 70 (fun v => [.inr (34, 0), .inl (.int x1), av0])) := by
  intro F
  induction F with
  | zero => intro x2 h; exact S_none
  | succ F ih => intro x2 h; exact sb_X12_on_52 (l_X12_on_52 F) x1 x2 ih h
theorem sb_X12_on_72  (rc : Int32 → Int32 → AH → Option (Unit × AH)) (x1 : Int32) (x2 : Int32) (hrc : ∀ (x2 : Int32) (h : AH), Sim PP (1) k_X12_on (72, [.inr (34, 0), .inl (.int x1), .inl (.int x2)], [], h) (rc x1 x2 h) (fE PP (1) k_X12_on 90 (fun v => [.inr (34, 0), av0, av0])))  (h : AH) : Sim PP (1) k_X12_on (72, [.inr (34, 0), .inl (.int x1), .inl (.int x2)], [], h) (b_X12_on_72 rc x1 x2 h) (fE PP (1) k_X12_on 90 (fun v => [.inr (34, 0), av0, av0])) := by
  unfold b_X12_on_72
  refine S_br 4 90 76 [.inr (34, 0), .inl (.int x1), .inl (.int x2)] [] h rfl (fun _ => ?_) (fun _ => ?_)
  · exact S_ex () (fun v => [.inr (34, 0), av0, av0]) rfl
  · refine S_grd 11 (87, [.inr (34, 0), .inl (.int x1), .inl (.int x2)], [.inl (.int (h.1 54 0 (((14 : Int32) * x1) + x2).toNatClampNeg)), .inl (.int x2), .inr (44, 0)], h) rfl (fun _ => ?_)
    refine S_grd 1 (88, [.inr (34, 0), .inl (.int x1), .inl (.int x2)], [], (hsI h 44 0 x2.toNatClampNeg (h.1 54 0 (((14 : Int32) * x1) + x2).toNatClampNeg))) rfl (fun _ => ?_)
    refine S_blk 2 (72, [.inr (34, 0), .inl (.int x1), .inl (.int (x2 + (1 : Int32)))], [], (hsI h 44 0 x2.toNatClampNeg (h.1 54 0 (((14 : Int32) * x1) + x2).toNatClampNeg))) rfl ?_
    refine S_nrm [.inr (34, 0), .inl (.int x1), .inl (.int (x2 + (1 : Int32)))] rfl ?_
    exact hrc (x2 + (1 : Int32)) (hsI h 44 0 x2.toNatClampNeg (h.1 54 0 (((14 : Int32) * x1) + x2).toNatClampNeg))
theorem sl_X12_on_72    (x1 : Int32) : ∀ (F : Nat) (x2 : Int32) (h : AH), Sim PP (1) k_X12_on (72, [.inr (34, 0), .inl (.int x1), .inl (.int x2)], [], h) (l_X12_on_72 F x1 x2 h) (fE PP (1) k_X12_on 90 (fun v => [.inr (34, 0), av0, av0])) := by
  intro F
  induction F with
  | zero => intro x2 h; exact S_none
  | succ F ih => intro x2 h; exact sb_X12_on_72 (l_X12_on_72 F) x1 x2 ih h
theorem sc_X12_on_90      (h : AH) : Sim PP (1) k_X12_on (90, [.inr (34, 0), av0, av0], [], h) (c_X12_on_90   h) fI := by
  unfold c_X12_on_90
  refine S_di 1 91 222 0 [.inr (34, 0), av0, av0] [.inr (34, 0)] [.inr (34, 0)] [.inr (34, 0), av0, av0] [] h rfl rfl pp_222 (by decide) (s_X12_answerMany  h) (fun y1 h2 => ?_)
  exact S_ri 0 (92, [.inr (34, 0), av0, av0], [.inl (.int y1)], h2) rfl rfl
theorem sc_X12_on_70    (x1 : Int32)  (h : AH) : Sim PP (1) k_X12_on (70, [.inr (34, 0), .inl (.int x1), av0], [], h) (c_X12_on_70  x1 h) fI := by
  unfold c_X12_on_70
  refine S_blk 2 (72, [.inr (34, 0), .inl (.int x1), .inl (.int (0 : Int32))], [], h) rfl ?_
  refine S_nrm [.inr (34, 0), .inl (.int x1), .inl (.int (0 : Int32))] rfl ?_
  refine S_lp 90 (fun v => [.inr (34, 0), av0, av0]) (sl_X12_on_72 x1 FU (0 : Int32) h) (fun v h => ?_)
  exact sc_X12_on_90 h
theorem s_X12_on (x1 : Int32) (h : AH) : Sim PP (1) k_X12_on (0, [.inr (34, 0), .inl (.int x1), av0], [], h) (f_X12_on x1 h) fI := by
  unfold f_X12_on
  refine S_di 3 3 154 0 [.inr (34, 0), .inl (.int x1), av0] [.inl (.int (2 : Int32)), .inl (.int (0 : Int32)), .inl (.int x1)] [.inl (.int x1), .inl (.int (0 : Int32)), .inl (.int (2 : Int32))] [.inr (34, 0), .inl (.int x1), av0] [] h rfl rfl pp_154 (by decide) (s_X12_in x1 (0 : Int32) (2 : Int32) h) (fun y1 h2 => ?_)
  refine S_br 1 5 7 [.inr (34, 0), .inl (.int x1), av0] [] h2 rfl (fun _ => ?_) (fun _ => ?_)
  · exact S_ri 1 (6, [.inr (34, 0), .inl (.int x1), av0], [.inl (.int (-1 : Int32))], h2) rfl rfl
  · refine S_grd 4 (11, [.inr (34, 0), .inl (.int x1), av0], [.inl (.int (h2.1 50 0 x1.toNatClampNeg))], h2) rfl (fun _ => ?_)
    refine S_br 1 12 16 [.inr (34, 0), .inl (.int x1), av0] [] h2 rfl (fun _ => ?_) (fun _ => ?_)
    · refine S_di 2 14 159 0 [.inr (34, 0), .inl (.int x1), av0] [.inl (.int (1 : Int32)), .inr (34, 0)] [.inr (34, 0), .inl (.int (1 : Int32))] [.inr (34, 0), .inl (.int x1), av0] [] h2 rfl rfl pp_159 (by decide) (s_X12_meets (1 : Int32) h2) (fun y3 h4 => ?_)
      exact S_ri 0 (15, [.inr (34, 0), .inl (.int x1), av0], [.inl (.int y3)], h4) rfl rfl
    · refine S_grd 5 (21, [.inr (34, 0), .inl (.int x1), av0], [.inl (.int (h2.1 51 0 x1.toNatClampNeg)), .inr (34, 0)], h2) rfl (fun _ => ?_)
      refine S_grd 8 (29, [.inr (34, 0), .inl (.int x1), av0], [.inl (.int ((hsI h2 34 0 27 (h2.1 51 0 x1.toNatClampNeg)).1 53 0 ((3 : Int32) * x1).toNatClampNeg)), .inr (34, 0)], (hsI h2 34 0 27 (h2.1 51 0 x1.toNatClampNeg))) rfl (fun _ => ?_)
      refine S_grd 10 (39, [.inr (34, 0), .inl (.int x1), av0], [.inl (.int ((hsI (hsI h2 34 0 27 (h2.1 51 0 x1.toNatClampNeg)) 34 0 16 ((hsI h2 34 0 27 (h2.1 51 0 x1.toNatClampNeg)).1 53 0 ((3 : Int32) * x1).toNatClampNeg)).1 53 0 (((3 : Int32) * x1) + (1 : Int32)).toNatClampNeg)), .inr (34, 0)], (hsI (hsI h2 34 0 27 (h2.1 51 0 x1.toNatClampNeg)) 34 0 16 ((hsI h2 34 0 27 (h2.1 51 0 x1.toNatClampNeg)).1 53 0 ((3 : Int32) * x1).toNatClampNeg))) rfl (fun _ => ?_)
      refine S_grd 10 (49, [.inr (34, 0), .inl (.int x1), av0], [.inl (.int ((hsI (hsI (hsI h2 34 0 27 (h2.1 51 0 x1.toNatClampNeg)) 34 0 16 ((hsI h2 34 0 27 (h2.1 51 0 x1.toNatClampNeg)).1 53 0 ((3 : Int32) * x1).toNatClampNeg)) 34 0 17 ((hsI (hsI h2 34 0 27 (h2.1 51 0 x1.toNatClampNeg)) 34 0 16 ((hsI h2 34 0 27 (h2.1 51 0 x1.toNatClampNeg)).1 53 0 ((3 : Int32) * x1).toNatClampNeg)).1 53 0 (((3 : Int32) * x1) + (1 : Int32)).toNatClampNeg)).1 53 0 (((3 : Int32) * x1) + (2 : Int32)).toNatClampNeg)), .inr (34, 0)], (hsI (hsI (hsI h2 34 0 27 (h2.1 51 0 x1.toNatClampNeg)) 34 0 16 ((hsI h2 34 0 27 (h2.1 51 0 x1.toNatClampNeg)).1 53 0 ((3 : Int32) * x1).toNatClampNeg)) 34 0 17 ((hsI (hsI h2 34 0 27 (h2.1 51 0 x1.toNatClampNeg)) 34 0 16 ((hsI h2 34 0 27 (h2.1 51 0 x1.toNatClampNeg)).1 53 0 ((3 : Int32) * x1).toNatClampNeg)).1 53 0 (((3 : Int32) * x1) + (1 : Int32)).toNatClampNeg))) rfl (fun _ => ?_)
      refine S_blk 3 (52, [.inr (34, 0), .inl (.int x1), .inl (.int (0 : Int32))], [], (hsI (hsI (hsI (hsI h2 34 0 27 (h2.1 51 0 x1.toNatClampNeg)) 34 0 16 ((hsI h2 34 0 27 (h2.1 51 0 x1.toNatClampNeg)).1 53 0 ((3 : Int32) * x1).toNatClampNeg)) 34 0 17 ((hsI (hsI h2 34 0 27 (h2.1 51 0 x1.toNatClampNeg)) 34 0 16 ((hsI h2 34 0 27 (h2.1 51 0 x1.toNatClampNeg)).1 53 0 ((3 : Int32) * x1).toNatClampNeg)).1 53 0 (((3 : Int32) * x1) + (1 : Int32)).toNatClampNeg)) 34 0 18 ((hsI (hsI (hsI h2 34 0 27 (h2.1 51 0 x1.toNatClampNeg)) 34 0 16 ((hsI h2 34 0 27 (h2.1 51 0 x1.toNatClampNeg)).1 53 0 ((3 : Int32) * x1).toNatClampNeg)) 34 0 17 ((hsI (hsI h2 34 0 27 (h2.1 51 0 x1.toNatClampNeg)) 34 0 16 ((hsI h2 34 0 27 (h2.1 51 0 x1.toNatClampNeg)).1 53 0 ((3 : Int32) * x1).toNatClampNeg)).1 53 0 (((3 : Int32) * x1) + (1 : Int32)).toNatClampNeg)).1 53 0 (((3 : Int32) * x1) + (2 : Int32)).toNatClampNeg))) rfl ?_
      refine S_nrm [.inr (34, 0), .inl (.int x1), .inl (.int (0 : Int32))] rfl ?_
      refine S_lp 70 (fun v => [.inr (34, 0), .inl (.int x1), av0]) (sl_X12_on_52 x1 FU (0 : Int32) (hsI (hsI (hsI (hsI h2 34 0 27 (h2.1 51 0 x1.toNatClampNeg)) 34 0 16 ((hsI h2 34 0 27 (h2.1 51 0 x1.toNatClampNeg)).1 53 0 ((3 : Int32) * x1).toNatClampNeg)) 34 0 17 ((hsI (hsI h2 34 0 27 (h2.1 51 0 x1.toNatClampNeg)) 34 0 16 ((hsI h2 34 0 27 (h2.1 51 0 x1.toNatClampNeg)).1 53 0 ((3 : Int32) * x1).toNatClampNeg)).1 53 0 (((3 : Int32) * x1) + (1 : Int32)).toNatClampNeg)) 34 0 18 ((hsI (hsI (hsI h2 34 0 27 (h2.1 51 0 x1.toNatClampNeg)) 34 0 16 ((hsI h2 34 0 27 (h2.1 51 0 x1.toNatClampNeg)).1 53 0 ((3 : Int32) * x1).toNatClampNeg)) 34 0 17 ((hsI (hsI h2 34 0 27 (h2.1 51 0 x1.toNatClampNeg)) 34 0 16 ((hsI h2 34 0 27 (h2.1 51 0 x1.toNatClampNeg)).1 53 0 ((3 : Int32) * x1).toNatClampNeg)).1 53 0 (((3 : Int32) * x1) + (1 : Int32)).toNatClampNeg)).1 53 0 (((3 : Int32) * x1) + (2 : Int32)).toNatClampNeg))) (fun v h => ?_)
      exact sc_X12_on_70 x1 h
theorem s_X11_stands  (h : AH) : Sim PP (4) k_X11_stands (0, [.inr (0, 0), av0], [], h) (f_X11_stands  h) fI := by
  unfold f_X11_stands
  refine S_di 2 2 7 3 [.inr (0, 0), av0] [.inr (18, 0)] [.inr (18, 0)] [.inr (0, 0), av0] [] h rfl rfl pp_7 (by decide) (s_X0_standing  h) (fun y1 h2 => ?_)
  refine S_di 4 7 50 0 [.inr (0, 0), .inl (.int y1)] [.inr (12, 0), .inr (0, 0)] [.inr (12, 0)] [.inr (0, 0), .inl (.int y1)] [.inr (0, 0)] h2 rfl rfl pp_50 (by decide) (s_X6_allBits 0 h2) (fun y3 h4 => ?_)
  exact S_ri 12 (20, [.inr (0, 0), .inl (.int y1)], [.inl (.int y1)], (hsI h4 0 0 14 ((y3 &&& (y1 ^^^ (-1 : Int32))) &&& ((h4.1 8 3 3) ^^^ (-1 : Int32))))) rfl rfl
theorem s_X12_stands  (h : AH) : Sim PP (3) k_X12_stands (0, [.inr (34, 0), av0], [], h) (f_X12_stands  h) fI := by
  unfold f_X12_stands
  refine S_di 1 1 202 2 [.inr (34, 0), av0] [.inr (34, 0)] [.inr (34, 0)] [.inr (34, 0), av0] [] h rfl rfl pp_202 (by decide) (s_X12_standNow  h) (fun y1 h2 => ?_)
  refine S_di 3 5 191 0 [.inr (34, 0), .inl (.int y1)] [.inr (34, 0), .inr (34, 0)] [.inr (34, 0)] [.inr (34, 0), .inl (.int y1)] [.inr (34, 0)] h2 rfl rfl pp_191 (by decide) (s_X12_allClaims  h2) (fun y3 h4 => ?_)
  refine S_di 10 16 162 0 [.inr (34, 0), .inl (.int y1)] [.inl (.int y1), .inl (.int ((y3 &&& ((h4.1 34 0 16) ^^^ (-1 : Int32))) &&& (y1 ^^^ (-1 : Int32)))), .inr (34, 0)] [.inr (34, 0), .inl (.int ((y3 &&& ((h4.1 34 0 16) ^^^ (-1 : Int32))) &&& (y1 ^^^ (-1 : Int32)))), .inl (.int y1)] [.inr (34, 0), .inl (.int y1)] [] h4 rfl rfl pp_162 (by decide) (s_X12_tells ((y3 &&& ((h4.1 34 0 16) ^^^ (-1 : Int32))) &&& (y1 ^^^ (-1 : Int32))) y1 h4) (fun y5 h6 => ?_)
  exact S_ri 0 (17, [.inr (34, 0), .inl (.int y1)], [.inl (.int y5)], h6) rfl rfl
theorem s_X10_isFirm (x1 : Int32) (x2 : Int32) (h : AH) : Sim PP (2) k_X10_isFirm (0, [.inr (19, 0), .inl (.int x1), .inl (.int x2)], [], h) (f_X10_isFirm x1 x2 h) fI := by
  unfold f_X10_isFirm
  refine S_di 3 3 0 1 [.inr (19, 0), .inl (.int x1), .inl (.int x2)] [.inl (.int x1), .inr (18, 0)] [.inr (18, 0), .inl (.int x1)] [.inr (19, 0), .inl (.int x1), .inl (.int x2)] [] h rfl rfl pp_0 (by decide) (s_X0_isUsable x1 h) (fun y1 h2 => ?_)
  refine S_br 1 17 5 [.inr (19, 0), .inl (.int x1), .inl (.int x2)] [] h2 rfl (fun _ => ?_) (fun _ => ?_)
  · exact S_ri 1 (18, [.inr (19, 0), .inl (.int x1), .inl (.int x2)], [.inl (.int (0 : Int32))], h2) rfl rfl
  · refine S_grd 5 (10, [.inr (19, 0), .inl (.int x1), .inl (.int x2)], [.inl (.int (h2.1 16 0 x1.toNatClampNeg))], h2) rfl (fun _ => ?_)
    refine S_br 5 15 17 [.inr (19, 0), .inl (.int x1), .inl (.int x2)] [] h2 rfl (fun _ => ?_) (fun _ => ?_)
    · exact S_ri 2 (18, [.inr (19, 0), .inl (.int x1), .inl (.int x2)], [.inl (.int (1 : Int32))], h2) rfl rfl
    · exact S_ri 1 (18, [.inr (19, 0), .inl (.int x1), .inl (.int x2)], [.inl (.int (0 : Int32))], h2) rfl rfl
theorem s_J9_max_7cf53 (x0 : Int32) (x1 : Int32) (h : AH) : Sim PP (0) k_J9_max_7cf53 (0, [.inl (.int x0), .inl (.int x1)], [], h) (f_J9_max_7cf53 x0 x1 h) fI := by
  unfold f_J9_max_7cf53
  refine S_br 3 5 3 [.inl (.int x0), .inl (.int x1)] [] h rfl (fun _ => ?_) (fun _ => ?_)
  · exact S_ri 1 (6, [.inl (.int x0), .inl (.int x1)], [.inl (.int x1)], h) rfl rfl
  · exact S_ri 2 (6, [.inl (.int x0), .inl (.int x1)], [.inl (.int x0)], h) rfl rfl
theorem s_J9_min_7cf53 (x0 : Int32) (x1 : Int32) (h : AH) : Sim PP (0) k_J9_min_7cf53 (0, [.inl (.int x0), .inl (.int x1)], [], h) (f_J9_min_7cf53 x0 x1 h) fI := by
  unfold f_J9_min_7cf53
  refine S_br 3 5 3 [.inl (.int x0), .inl (.int x1)] [] h rfl (fun _ => ?_) (fun _ => ?_)
  · exact S_ri 1 (6, [.inl (.int x0), .inl (.int x1)], [.inl (.int x1)], h) rfl rfl
  · exact S_ri 2 (6, [.inl (.int x0), .inl (.int x1)], [.inl (.int x0)], h) rfl rfl
theorem sb_X10_costBy_6  (rc : Int32 → Int32 → Int32 → Int32 → Int32 → AH → Option ((Int32 × Int32) × AH)) (x1 : Int32) (x2 : Int32) (x3 : Int32) (x4 : Int32) (x5 : Int32) (hrc : ∀ (x3 : Int32) (x4 : Int32) (x5 : Int32) (h : AH), Sim PP (1) k_X10_costBy (6, [.inr (19, 0), .inl (.int x1), .inl (.int x2), .inl (.int x3), .inl (.int x4), .inl (.int x5)], [], h) (rc x1 x2 x3 x4 x5 h) (fE PP (1) k_X10_costBy 35 (fun v => [.inr (19, 0), .inl (.int x1), .inl (.int x2), .inl (.int v.1), .inl (.int v.2), av0])))  (h : AH) : Sim PP (1) k_X10_costBy (6, [.inr (19, 0), .inl (.int x1), .inl (.int x2), .inl (.int x3), .inl (.int x4), .inl (.int x5)], [], h) (b_X10_costBy_6 rc x1 x2 x3 x4 x5 h) (fE PP (1) k_X10_costBy 35 (fun v => [.inr (19, 0), .inl (.int x1), .inl (.int x2), .inl (.int v.1), .inl (.int v.2), av0])) := by
  unfold b_X10_costBy_6
  refine S_br 5 35 11 [.inr (19, 0), .inl (.int x1), .inl (.int x2), .inl (.int x3), .inl (.int x4), .inl (.int x5)] [] h rfl (fun _ => ?_) (fun _ => ?_)
  · exact S_ex (x3, x4) (fun v => [.inr (19, 0), .inl (.int x1), .inl (.int x2), .inl (.int v.1), .inl (.int v.2), av0]) rfl
  · refine S_grd 5 (16, [.inr (19, 0), .inl (.int x1), .inl (.int x2), .inl (.int x3), .inl (.int x4), .inl (.int x5)], [.inl (.int (h.1 16 0 x1.toNatClampNeg))], h) rfl (fun _ => ?_)
    refine S_di 1 17 138 0 [.inr (19, 0), .inl (.int x1), .inl (.int x2), .inl (.int x3), .inl (.int x4), .inl (.int x5)] [.inl (.int x5), .inl (.int (h.1 16 0 x1.toNatClampNeg))] [.inl (.int (h.1 16 0 x1.toNatClampNeg)), .inl (.int x5)] [.inr (19, 0), .inl (.int x1), .inl (.int x2), .inl (.int x3), .inl (.int x4), .inl (.int x5)] [] h rfl rfl pp_138 (by decide) (s_X11_has (h.1 16 0 x1.toNatClampNeg) x5 h) (fun y1 h2 => ?_)
    refine S_br 1 33 19 [.inr (19, 0), .inl (.int x1), .inl (.int x2), .inl (.int x3), .inl (.int x4), .inl (.int x5)] [] h2 rfl (fun _ => ?_) (fun _ => ?_)
    · refine S_blk 2 (6, [.inr (19, 0), .inl (.int x1), .inl (.int x2), .inl (.int x3), .inl (.int x4), .inl (.int (x5 + (1 : Int32)))], [], h2) rfl ?_
      refine S_nrm [.inr (19, 0), .inl (.int x1), .inl (.int x2), .inl (.int x3), .inl (.int x4), .inl (.int (x5 + (1 : Int32)))] rfl ?_
      exact hrc x3 x4 (x5 + (1 : Int32)) h2
    · refine S_grd 5 (24, [.inr (19, 0), .inl (.int x1), .inl (.int x2), .inl (.int x3), .inl (.int x4), .inl (.int x5)], [.inl (.int (h2.1 21 0 x5.toNatClampNeg)), .inl (.int x3)], h2) rfl (fun _ => ?_)
      refine S_di 0 24 272 0 [.inr (19, 0), .inl (.int x1), .inl (.int x2), .inl (.int x3), .inl (.int x4), .inl (.int x5)] [.inl (.int (h2.1 21 0 x5.toNatClampNeg)), .inl (.int x3)] [.inl (.int x3), .inl (.int (h2.1 21 0 x5.toNatClampNeg))] [.inr (19, 0), .inl (.int x1), .inl (.int x2), .inl (.int x3), .inl (.int x4), .inl (.int x5)] [] h2 rfl rfl pp_272 (by decide) (s_J9_max_7cf53 x3 (h2.1 21 0 x5.toNatClampNeg) h2) (fun y3 h4 => ?_)
      refine S_grd 6 (31, [.inr (19, 0), .inl (.int x1), .inl (.int x2), .inl (.int y3), .inl (.int x4), .inl (.int x5)], [.inl (.int (h4.1 21 0 x5.toNatClampNeg)), .inl (.int x4)], h4) rfl (fun _ => ?_)
      refine S_blk 4 (6, [.inr (19, 0), .inl (.int x1), .inl (.int x2), .inl (.int y3), .inl (.int (x4 + (h4.1 21 0 x5.toNatClampNeg))), .inl (.int (x5 + (1 : Int32)))], [], h4) rfl ?_
      refine S_nrm [.inr (19, 0), .inl (.int x1), .inl (.int x2), .inl (.int y3), .inl (.int (x4 + (h4.1 21 0 x5.toNatClampNeg))), .inl (.int (x5 + (1 : Int32)))] rfl ?_
      exact hrc y3 (x4 + (h4.1 21 0 x5.toNatClampNeg)) (x5 + (1 : Int32)) h4
theorem sl_X10_costBy_6    (x1 : Int32) (x2 : Int32) : ∀ (F : Nat) (x3 : Int32) (x4 : Int32) (x5 : Int32) (h : AH), Sim PP (1) k_X10_costBy (6, [.inr (19, 0), .inl (.int x1), .inl (.int x2), .inl (.int x3), .inl (.int x4), .inl (.int x5)], [], h) (l_X10_costBy_6 F x1 x2 x3 x4 x5 h) (fE PP (1) k_X10_costBy 35 (fun v => [.inr (19, 0), .inl (.int x1), .inl (.int x2), .inl (.int v.1), .inl (.int v.2), av0])) := by
  intro F
  induction F with
  | zero => intro x3 x4 x5 h; exact S_none
  | succ F ih => intro x3 x4 x5 h; exact sb_X10_costBy_6 (l_X10_costBy_6 F) x1 x2 x3 x4 x5 ih h
theorem sc_X10_costBy_35    (x1 : Int32) (x2 : Int32) (x3 : Int32) (x4 : Int32)  (h : AH) : Sim PP (1) k_X10_costBy (35, [.inr (19, 0), .inl (.int x1), .inl (.int x2), .inl (.int x3), .inl (.int x4), av0], [], h) (c_X10_costBy_35  x1 x2 x3 x4 h) fI := by
  unfold c_X10_costBy_35
  refine S_br 3 40 38 [.inr (19, 0), .inl (.int x1), .inl (.int x2), .inl (.int x3), .inl (.int x4), av0] [] h rfl (fun _ => ?_) (fun _ => ?_)
  · refine S_blk 2 (if x2 = 0 then 42 else if x2 = 1 then 46 else 52, [.inr (19, 0), .inl (.int x1), .inl (.int x2), .inl (.int x3), .inl (.int x4), av0], [], h) rfl ?_
    refine S_ite (fun _ => ?_) (fun _ => ?_)
    · exact S_ri 3 (45, [.inr (19, 0), .inl (.int x1), .inl (.int x2), .inl (.int x3), .inl (.int x4), av0], [.inl (.int ((1 : Int32) + x3))], h) rfl rfl
    · refine S_ite (fun _ => ?_) (fun _ => ?_)
      · refine S_di 4 50 273 0 [.inr (19, 0), .inl (.int x1), .inl (.int x2), .inl (.int x3), .inl (.int x4), av0] [.inl (.int ((1 : Int32) + x4)), .inl (.int (999 : Int32))] [.inl (.int (999 : Int32)), .inl (.int ((1 : Int32) + x4))] [.inr (19, 0), .inl (.int x1), .inl (.int x2), .inl (.int x3), .inl (.int x4), av0] [] h rfl rfl pp_273 (by decide) (s_J9_min_7cf53 (999 : Int32) ((1 : Int32) + x4) h) (fun y1 h2 => ?_)
        exact S_ri 0 (51, [.inr (19, 0), .inl (.int x1), .inl (.int x2), .inl (.int x3), .inl (.int x4), av0], [.inl (.int y1)], h2) rfl rfl
      · refine S_grd 7 (59, [.inr (19, 0), .inl (.int x1), .inl (.int x2), .inl (.int x3), .inl (.int x4), av0], [.inl (.int (h.1 9 3 x1.toNatClampNeg)), .inl (.int (9 : Int32)), .inl (.int x3)], h) rfl (fun _ => ?_)
        refine S_di 1 60 272 0 [.inr (19, 0), .inl (.int x1), .inl (.int x2), .inl (.int x3), .inl (.int x4), av0] [.inl (.int ((9 : Int32) - (h.1 9 3 x1.toNatClampNeg))), .inl (.int x3)] [.inl (.int x3), .inl (.int ((9 : Int32) - (h.1 9 3 x1.toNatClampNeg)))] [.inr (19, 0), .inl (.int x1), .inl (.int x2), .inl (.int x3), .inl (.int x4), av0] [] h rfl rfl pp_272 (by decide) (s_J9_max_7cf53 x3 ((9 : Int32) - (h.1 9 3 x1.toNatClampNeg)) h) (fun y3 h4 => ?_)
        exact S_ri 0 (61, [.inr (19, 0), .inl (.int x1), .inl (.int x2), .inl (.int x3), .inl (.int x4), av0], [.inl (.int y3)], h4) rfl rfl
  · exact S_ri 1 (39, [.inr (19, 0), .inl (.int x1), .inl (.int x2), .inl (.int x3), .inl (.int x4), av0], [.inl (.int (1000000 : Int32))], h) rfl rfl
theorem s_X10_costBy (x1 : Int32) (x2 : Int32) (h : AH) : Sim PP (1) k_X10_costBy (0, [.inr (19, 0), .inl (.int x1), .inl (.int x2), av0, av0, av0], [], h) (f_X10_costBy x1 x2 h) fI := by
  unfold f_X10_costBy
  refine S_blk 6 (6, [.inr (19, 0), .inl (.int x1), .inl (.int x2), .inl (.int (0 : Int32)), .inl (.int (0 : Int32)), .inl (.int (0 : Int32))], [], h) rfl ?_
  refine S_nrm [.inr (19, 0), .inl (.int x1), .inl (.int x2), .inl (.int (0 : Int32)), .inl (.int (0 : Int32)), .inl (.int (0 : Int32))] rfl ?_
  refine S_lp 35 (fun v => [.inr (19, 0), .inl (.int x1), .inl (.int x2), .inl (.int v.1), .inl (.int v.2), av0]) (sl_X10_costBy_6 x1 x2 FU (0 : Int32) (0 : Int32) (0 : Int32) h) (fun v h => ?_)
  exact sc_X10_costBy_35 x1 x2 v.1 v.2 h
theorem sb_X10_relax_4  (rc : Int32 → Int32 → Int32 → Int32 → AH → Option (Int32 × AH)) (x1 : Int32) (x2 : Int32) (x3 : Int32) (x4 : Int32) (hrc : ∀ (x3 : Int32) (x4 : Int32) (h : AH), Sim PP (3) k_X10_relax (4, [.inr (19, 0), .inl (.int x1), .inl (.int x2), .inl (.int x3), .inl (.int x4), av0, av0], [], h) (rc x1 x2 x3 x4 h) (fE PP (3) k_X10_relax 49 (fun v => [av0, av0, av0, .inl (.int v), av0, av0, av0])))  (h : AH) : Sim PP (3) k_X10_relax (4, [.inr (19, 0), .inl (.int x1), .inl (.int x2), .inl (.int x3), .inl (.int x4), av0, av0], [], h) (b_X10_relax_4 rc x1 x2 x3 x4 h) (fE PP (3) k_X10_relax 49 (fun v => [av0, av0, av0, .inl (.int v), av0, av0, av0])) := by
  unfold b_X10_relax_4
  refine S_br 5 49 9 [.inr (19, 0), .inl (.int x1), .inl (.int x2), .inl (.int x3), .inl (.int x4), av0, av0] [] h rfl (fun _ => ?_) (fun _ => ?_)
  · exact S_ex x3 (fun v => [av0, av0, av0, .inl (.int v), av0, av0, av0]) rfl
  · refine S_grd 5 (14, [.inr (19, 0), .inl (.int x1), .inl (.int x2), .inl (.int x3), .inl (.int x4), av0, av0], [.inl (.int (h.1 15 0 x4.toNatClampNeg))], h) rfl (fun _ => ?_)
    refine S_di 4 18 74 2 [.inr (19, 0), .inl (.int x1), .inl (.int x2), .inl (.int x3), .inl (.int x4), .inl (.int (h.1 15 0 x4.toNatClampNeg)), av0] [.inl (.int x1), .inl (.int x4), .inr (19, 0)] [.inr (19, 0), .inl (.int x4), .inl (.int x1)] [.inr (19, 0), .inl (.int x1), .inl (.int x2), .inl (.int x3), .inl (.int x4), .inl (.int (h.1 15 0 x4.toNatClampNeg)), av0] [] h rfl rfl pp_74 (by decide) (s_X10_isFirm x4 x1 h) (fun y1 h2 => ?_)
    refine S_br 1 47 20 [.inr (19, 0), .inl (.int x1), .inl (.int x2), .inl (.int x3), .inl (.int x4), .inl (.int (h.1 15 0 x4.toNatClampNeg)), av0] [] h2 rfl (fun _ => ?_) (fun _ => ?_)
    · refine S_blk 2 (4, [.inr (19, 0), .inl (.int x1), .inl (.int x2), .inl (.int x3), .inl (.int (x4 + (1 : Int32))), .inl (.int (h.1 15 0 x4.toNatClampNeg)), av0], [], h2) rfl ?_
      refine S_nrm [.inr (19, 0), .inl (.int x1), .inl (.int x2), .inl (.int x3), .inl (.int (x4 + (1 : Int32))), av0, av0] rfl ?_
      exact hrc x3 (x4 + (1 : Int32)) h2
    · refine S_di 3 23 75 1 [.inr (19, 0), .inl (.int x1), .inl (.int x2), .inl (.int x3), .inl (.int x4), .inl (.int (h.1 15 0 x4.toNatClampNeg)), av0] [.inl (.int x2), .inl (.int x4), .inr (19, 0)] [.inr (19, 0), .inl (.int x4), .inl (.int x2), av0, av0, av0] [.inr (19, 0), .inl (.int x1), .inl (.int x2), .inl (.int x3), .inl (.int x4), .inl (.int (h.1 15 0 x4.toNatClampNeg)), av0] [] h2 rfl rfl pp_75 (by decide) (s_X10_costBy x4 x2 h2) (fun y3 h4 => ?_)
      refine S_br 3 27 33 [.inr (19, 0), .inl (.int x1), .inl (.int x2), .inl (.int x3), .inl (.int x4), .inl (.int (h.1 15 0 x4.toNatClampNeg)), .inl (.int y3)] [] h4 rfl (fun _ => ?_) (fun _ => ?_)
      · refine S_grd 5 (32, [.inr (19, 0), .inl (.int x1), .inl (.int x2), .inl (.int x3), .inl (.int x4), .inl (.int (h.1 15 0 x4.toNatClampNeg)), .inl (.int y3)], [.inl (.int (h4.1 21 0 (h.1 15 0 x4.toNatClampNeg).toNatClampNeg)), .inl (.int y3)], h4) rfl (fun _ => ?_)
        refine S_br 1 35 33 [.inr (19, 0), .inl (.int x1), .inl (.int x2), .inl (.int x3), .inl (.int x4), .inl (.int (h.1 15 0 x4.toNatClampNeg)), .inl (.int y3)] [] h4 rfl (fun _ => ?_) (fun _ => ?_)
        · refine S_grd 9 (44, [.inr (19, 0), .inl (.int x1), .inl (.int x2), .inl (.int (0 : Int32)), .inl (.int x4), .inl (.int (h.1 15 0 x4.toNatClampNeg)), .inl (.int y3)], [.inl (.int (h4.1 21 0 (h.1 15 0 x4.toNatClampNeg).toNatClampNeg)), .inl (.int (h.1 15 0 x4.toNatClampNeg)), .inr (21, 0)], h4) rfl (fun _ => ?_)
          refine S_di 1 45 273 0 [.inr (19, 0), .inl (.int x1), .inl (.int x2), .inl (.int (0 : Int32)), .inl (.int x4), .inl (.int (h.1 15 0 x4.toNatClampNeg)), .inl (.int y3)] [.inl (.int y3), .inl (.int (h4.1 21 0 (h.1 15 0 x4.toNatClampNeg).toNatClampNeg)), .inl (.int (h.1 15 0 x4.toNatClampNeg)), .inr (21, 0)] [.inl (.int (h4.1 21 0 (h.1 15 0 x4.toNatClampNeg).toNatClampNeg)), .inl (.int y3)] [.inr (19, 0), .inl (.int x1), .inl (.int x2), .inl (.int (0 : Int32)), .inl (.int x4), .inl (.int (h.1 15 0 x4.toNatClampNeg)), .inl (.int y3)] [.inl (.int (h.1 15 0 x4.toNatClampNeg)), .inr (21, 0)] h4 rfl rfl pp_273 (by decide) (s_J9_min_7cf53 (h4.1 21 0 (h.1 15 0 x4.toNatClampNeg).toNatClampNeg) y3 h4) (fun y5 h6 => ?_)
          refine S_grd 1 (47, [.inr (19, 0), .inl (.int x1), .inl (.int x2), .inl (.int (0 : Int32)), .inl (.int x4), .inl (.int (h.1 15 0 x4.toNatClampNeg)), .inl (.int y3)], [], (hsI h6 21 0 (h.1 15 0 x4.toNatClampNeg).toNatClampNeg y5)) rfl (fun _ => ?_)
          refine S_blk 2 (4, [.inr (19, 0), .inl (.int x1), .inl (.int x2), .inl (.int (0 : Int32)), .inl (.int (x4 + (1 : Int32))), .inl (.int (h.1 15 0 x4.toNatClampNeg)), .inl (.int y3)], [], (hsI h6 21 0 (h.1 15 0 x4.toNatClampNeg).toNatClampNeg y5)) rfl ?_
          refine S_nrm [.inr (19, 0), .inl (.int x1), .inl (.int x2), .inl (.int (0 : Int32)), .inl (.int (x4 + (1 : Int32))), av0, av0] rfl ?_
          exact hrc (0 : Int32) (x4 + (1 : Int32)) (hsI h6 21 0 (h.1 15 0 x4.toNatClampNeg).toNatClampNeg y5)
        · refine S_grd 10 (44, [.inr (19, 0), .inl (.int x1), .inl (.int x2), .inl (.int (1 : Int32)), .inl (.int x4), .inl (.int (h.1 15 0 x4.toNatClampNeg)), .inl (.int y3)], [.inl (.int (h4.1 21 0 (h.1 15 0 x4.toNatClampNeg).toNatClampNeg)), .inl (.int (h.1 15 0 x4.toNatClampNeg)), .inr (21, 0)], h4) rfl (fun _ => ?_)
          refine S_di 1 45 273 0 [.inr (19, 0), .inl (.int x1), .inl (.int x2), .inl (.int (1 : Int32)), .inl (.int x4), .inl (.int (h.1 15 0 x4.toNatClampNeg)), .inl (.int y3)] [.inl (.int y3), .inl (.int (h4.1 21 0 (h.1 15 0 x4.toNatClampNeg).toNatClampNeg)), .inl (.int (h.1 15 0 x4.toNatClampNeg)), .inr (21, 0)] [.inl (.int (h4.1 21 0 (h.1 15 0 x4.toNatClampNeg).toNatClampNeg)), .inl (.int y3)] [.inr (19, 0), .inl (.int x1), .inl (.int x2), .inl (.int (1 : Int32)), .inl (.int x4), .inl (.int (h.1 15 0 x4.toNatClampNeg)), .inl (.int y3)] [.inl (.int (h.1 15 0 x4.toNatClampNeg)), .inr (21, 0)] h4 rfl rfl pp_273 (by decide) (s_J9_min_7cf53 (h4.1 21 0 (h.1 15 0 x4.toNatClampNeg).toNatClampNeg) y3 h4) (fun y7 h8 => ?_)
          refine S_grd 1 (47, [.inr (19, 0), .inl (.int x1), .inl (.int x2), .inl (.int (1 : Int32)), .inl (.int x4), .inl (.int (h.1 15 0 x4.toNatClampNeg)), .inl (.int y3)], [], (hsI h8 21 0 (h.1 15 0 x4.toNatClampNeg).toNatClampNeg y7)) rfl (fun _ => ?_)
          refine S_blk 2 (4, [.inr (19, 0), .inl (.int x1), .inl (.int x2), .inl (.int (1 : Int32)), .inl (.int (x4 + (1 : Int32))), .inl (.int (h.1 15 0 x4.toNatClampNeg)), .inl (.int y3)], [], (hsI h8 21 0 (h.1 15 0 x4.toNatClampNeg).toNatClampNeg y7)) rfl ?_
          refine S_nrm [.inr (19, 0), .inl (.int x1), .inl (.int x2), .inl (.int (1 : Int32)), .inl (.int (x4 + (1 : Int32))), av0, av0] rfl ?_
          exact hrc (1 : Int32) (x4 + (1 : Int32)) (hsI h8 21 0 (h.1 15 0 x4.toNatClampNeg).toNatClampNeg y7)
      · refine S_grd 10 (44, [.inr (19, 0), .inl (.int x1), .inl (.int x2), .inl (.int (1 : Int32)), .inl (.int x4), .inl (.int (h.1 15 0 x4.toNatClampNeg)), .inl (.int y3)], [.inl (.int (h4.1 21 0 (h.1 15 0 x4.toNatClampNeg).toNatClampNeg)), .inl (.int (h.1 15 0 x4.toNatClampNeg)), .inr (21, 0)], h4) rfl (fun _ => ?_)
        refine S_di 1 45 273 0 [.inr (19, 0), .inl (.int x1), .inl (.int x2), .inl (.int (1 : Int32)), .inl (.int x4), .inl (.int (h.1 15 0 x4.toNatClampNeg)), .inl (.int y3)] [.inl (.int y3), .inl (.int (h4.1 21 0 (h.1 15 0 x4.toNatClampNeg).toNatClampNeg)), .inl (.int (h.1 15 0 x4.toNatClampNeg)), .inr (21, 0)] [.inl (.int (h4.1 21 0 (h.1 15 0 x4.toNatClampNeg).toNatClampNeg)), .inl (.int y3)] [.inr (19, 0), .inl (.int x1), .inl (.int x2), .inl (.int (1 : Int32)), .inl (.int x4), .inl (.int (h.1 15 0 x4.toNatClampNeg)), .inl (.int y3)] [.inl (.int (h.1 15 0 x4.toNatClampNeg)), .inr (21, 0)] h4 rfl rfl pp_273 (by decide) (s_J9_min_7cf53 (h4.1 21 0 (h.1 15 0 x4.toNatClampNeg).toNatClampNeg) y3 h4) (fun y9 h10 => ?_)
        refine S_grd 1 (47, [.inr (19, 0), .inl (.int x1), .inl (.int x2), .inl (.int (1 : Int32)), .inl (.int x4), .inl (.int (h.1 15 0 x4.toNatClampNeg)), .inl (.int y3)], [], (hsI h10 21 0 (h.1 15 0 x4.toNatClampNeg).toNatClampNeg y9)) rfl (fun _ => ?_)
        refine S_blk 2 (4, [.inr (19, 0), .inl (.int x1), .inl (.int x2), .inl (.int (1 : Int32)), .inl (.int (x4 + (1 : Int32))), .inl (.int (h.1 15 0 x4.toNatClampNeg)), .inl (.int y3)], [], (hsI h10 21 0 (h.1 15 0 x4.toNatClampNeg).toNatClampNeg y9)) rfl ?_
        refine S_nrm [.inr (19, 0), .inl (.int x1), .inl (.int x2), .inl (.int (1 : Int32)), .inl (.int (x4 + (1 : Int32))), av0, av0] rfl ?_
        exact hrc (1 : Int32) (x4 + (1 : Int32)) (hsI h10 21 0 (h.1 15 0 x4.toNatClampNeg).toNatClampNeg y9)
theorem sl_X10_relax_4    (x1 : Int32) (x2 : Int32) : ∀ (F : Nat) (x3 : Int32) (x4 : Int32) (h : AH), Sim PP (3) k_X10_relax (4, [.inr (19, 0), .inl (.int x1), .inl (.int x2), .inl (.int x3), .inl (.int x4), av0, av0], [], h) (l_X10_relax_4 F x1 x2 x3 x4 h) (fE PP (3) k_X10_relax 49 (fun v => [av0, av0, av0, .inl (.int v), av0, av0, av0])) := by
  intro F
  induction F with
  | zero => intro x3 x4 h; exact S_none
  | succ F ih => intro x3 x4 h; exact sb_X10_relax_4 (l_X10_relax_4 F) x1 x2 x3 x4 ih h
theorem sc_X10_relax_49    (x3 : Int32)  (h : AH) : Sim PP (3) k_X10_relax (49, [av0, av0, av0, .inl (.int x3), av0, av0, av0], [], h) (c_X10_relax_49  x3 h) fI := by
  unfold c_X10_relax_49
  exact S_ri 1 (50, [av0, av0, av0, .inl (.int x3), av0, av0, av0], [.inl (.int x3)], h) rfl rfl
theorem s_X10_relax (x1 : Int32) (x2 : Int32) (h : AH) : Sim PP (3) k_X10_relax (0, [.inr (19, 0), .inl (.int x1), .inl (.int x2), av0, av0, av0, av0], [], h) (f_X10_relax x1 x2 h) fI := by
  unfold f_X10_relax
  refine S_blk 4 (4, [.inr (19, 0), .inl (.int x1), .inl (.int x2), .inl (.int (0 : Int32)), .inl (.int (0 : Int32)), av0, av0], [], h) rfl ?_
  refine S_nrm [.inr (19, 0), .inl (.int x1), .inl (.int x2), .inl (.int (0 : Int32)), .inl (.int (0 : Int32)), av0, av0] rfl ?_
  refine S_lp 49 (fun v => [av0, av0, av0, .inl (.int v), av0, av0, av0]) (sl_X10_relax_4 x1 x2 FU (0 : Int32) (0 : Int32) h) (fun v h => ?_)
  exact sc_X10_relax_49 v h
theorem sb_X10_leastFrom_6  (rc : Int32 → Int32 → Int32 → Int32 → AH → Option (Unit × AH)) (x1 : Int32) (x2 : Int32) (x3 : Int32) (x4 : Int32) (hrc : ∀ (x4 : Int32) (h : AH), Sim PP (4) k_X10_leastFrom (6, [.inr (19, 0), .inl (.int x1), .inl (.int x2), .inl (.int x3), .inl (.int x4), av0], [], h) (rc x1 x2 x3 x4 h) (fE PP (4) k_X10_leastFrom 29 (fun v => [.inr (19, 0), .inl (.int x1), .inl (.int x2), .inl (.int x3), av0, av0])))  (h : AH) : Sim PP (4) k_X10_leastFrom (6, [.inr (19, 0), .inl (.int x1), .inl (.int x2), .inl (.int x3), .inl (.int x4), av0], [], h) (b_X10_leastFrom_6 rc x1 x2 x3 x4 h) (fE PP (4) k_X10_leastFrom 29 (fun v => [.inr (19, 0), .inl (.int x1), .inl (.int x2), .inl (.int x3), av0, av0])) := by
  unfold b_X10_leastFrom_6
  refine S_br 5 29 11 [.inr (19, 0), .inl (.int x1), .inl (.int x2), .inl (.int x3), .inl (.int x4), av0] [] h rfl (fun _ => ?_) (fun _ => ?_)
  · exact S_ex () (fun v => [.inr (19, 0), .inl (.int x1), .inl (.int x2), .inl (.int x3), av0, av0]) rfl
  · refine S_di 7 18 51 1 [.inr (19, 0), .inl (.int x1), .inl (.int x2), .inl (.int x3), .inl (.int x4), av0] [.inl (.int (1 : Int32)), .inr (12, 0), .inl (.int x3), .inl (.int x4), .inr (21, 0)] [.inr (12, 0), .inl (.int (1 : Int32))] [.inr (19, 0), .inl (.int x1), .inl (.int x2), .inl (.int x3), .inl (.int x4), av0] [.inl (.int x3), .inl (.int x4), .inr (21, 0)] h rfl rfl pp_51 (by decide) (s_X6_bitsOf 0 (1 : Int32) h) (fun y1 h2 => ?_)
    refine S_di 2 21 138 0 [.inr (19, 0), .inl (.int x1), .inl (.int x2), .inl (.int x3), .inl (.int x4), av0] [.inl (.int x4), .inl (.int (x3 &&& y1)), .inl (.int x4), .inr (21, 0)] [.inl (.int (x3 &&& y1)), .inl (.int x4)] [.inr (19, 0), .inl (.int x1), .inl (.int x2), .inl (.int x3), .inl (.int x4), av0] [.inl (.int x4), .inr (21, 0)] h2 rfl rfl pp_138 (by decide) (s_X11_has (x3 &&& y1) x4 h2) (fun y3 h4 => ?_)
    refine S_br 1 25 23 [.inr (19, 0), .inl (.int x1), .inl (.int x2), .inl (.int x3), .inl (.int x4), av0] [.inl (.int x4), .inr (21, 0)] h4 rfl (fun _ => ?_) (fun _ => ?_)
    · refine S_grd 2 (27, [.inr (19, 0), .inl (.int x1), .inl (.int x2), .inl (.int x3), .inl (.int x4), av0], [], (hsI h4 21 0 x4.toNatClampNeg (1000000 : Int32))) rfl (fun _ => ?_)
      refine S_blk 2 (6, [.inr (19, 0), .inl (.int x1), .inl (.int x2), .inl (.int x3), .inl (.int (x4 + (1 : Int32))), av0], [], (hsI h4 21 0 x4.toNatClampNeg (1000000 : Int32))) rfl ?_
      refine S_nrm [.inr (19, 0), .inl (.int x1), .inl (.int x2), .inl (.int x3), .inl (.int (x4 + (1 : Int32))), av0] rfl ?_
      exact hrc (x4 + (1 : Int32)) (hsI h4 21 0 x4.toNatClampNeg (1000000 : Int32))
    · refine S_grd 3 (27, [.inr (19, 0), .inl (.int x1), .inl (.int x2), .inl (.int x3), .inl (.int x4), av0], [], (hsI h4 21 0 x4.toNatClampNeg (0 : Int32))) rfl (fun _ => ?_)
      refine S_blk 2 (6, [.inr (19, 0), .inl (.int x1), .inl (.int x2), .inl (.int x3), .inl (.int (x4 + (1 : Int32))), av0], [], (hsI h4 21 0 x4.toNatClampNeg (0 : Int32))) rfl ?_
      refine S_nrm [.inr (19, 0), .inl (.int x1), .inl (.int x2), .inl (.int x3), .inl (.int (x4 + (1 : Int32))), av0] rfl ?_
      exact hrc (x4 + (1 : Int32)) (hsI h4 21 0 x4.toNatClampNeg (0 : Int32))
theorem sl_X10_leastFrom_6    (x1 : Int32) (x2 : Int32) (x3 : Int32) : ∀ (F : Nat) (x4 : Int32) (h : AH), Sim PP (4) k_X10_leastFrom (6, [.inr (19, 0), .inl (.int x1), .inl (.int x2), .inl (.int x3), .inl (.int x4), av0], [], h) (l_X10_leastFrom_6 F x1 x2 x3 x4 h) (fE PP (4) k_X10_leastFrom 29 (fun v => [.inr (19, 0), .inl (.int x1), .inl (.int x2), .inl (.int x3), av0, av0])) := by
  intro F
  induction F with
  | zero => intro x4 h; exact S_none
  | succ F ih => intro x4 h; exact sb_X10_leastFrom_6 (l_X10_leastFrom_6 F) x1 x2 x3 x4 ih h
theorem sb_X10_leastFrom_33  (rc : Int32 → Int32 → Int32 → Int32 → Int32 → AH → Option (Unit × AH)) (x1 : Int32) (x2 : Int32) (x3 : Int32) (x4 : Int32) (x5 : Int32) (hrc : ∀ (x4 : Int32) (x5 : Int32) (h : AH), Sim PP (4) k_X10_leastFrom (33, [.inr (19, 0), .inl (.int x1), .inl (.int x2), .inl (.int x3), .inl (.int x4), .inl (.int x5)], [], h) (rc x1 x2 x3 x4 x5 h) (fE PP (4) k_X10_leastFrom 45 (fun v => [.inr (19, 0), .inl (.int x1), av0, .inl (.int x3), av0, av0])))  (h : AH) : Sim PP (4) k_X10_leastFrom (33, [.inr (19, 0), .inl (.int x1), .inl (.int x2), .inl (.int x3), .inl (.int x4), .inl (.int x5)], [], h) (b_X10_leastFrom_33 rc x1 x2 x3 x4 x5 h) (fE PP (4) k_X10_leastFrom 45 (fun v => [.inr (19, 0), .inl (.int x1), av0, .inl (.int x3), av0, av0])) := by
  unfold b_X10_leastFrom_33
  refine S_br 2 45 35 [.inr (19, 0), .inl (.int x1), .inl (.int x2), .inl (.int x3), .inl (.int x4), .inl (.int x5)] [] h rfl (fun _ => ?_) (fun _ => ?_)
  · exact S_ex () (fun v => [.inr (19, 0), .inl (.int x1), av0, .inl (.int x3), av0, av0]) rfl
  · refine S_br 3 45 38 [.inr (19, 0), .inl (.int x1), .inl (.int x2), .inl (.int x3), .inl (.int x4), .inl (.int x5)] [] h rfl (fun _ => ?_) (fun _ => ?_)
    · exact S_ex () (fun v => [.inr (19, 0), .inl (.int x1), av0, .inl (.int x3), av0, av0]) rfl
    · refine S_di 3 41 73 3 [.inr (19, 0), .inl (.int x1), .inl (.int x2), .inl (.int x3), .inl (.int x4), .inl (.int x5)] [.inl (.int x2), .inl (.int x3), .inr (19, 0)] [.inr (19, 0), .inl (.int x3), .inl (.int x2), av0, av0, av0, av0] [.inr (19, 0), .inl (.int x1), .inl (.int x2), .inl (.int x3), .inl (.int x4), .inl (.int x5)] [] h rfl rfl pp_73 (by decide) (s_X10_relax x3 x2 h) (fun y1 h2 => ?_)
      refine S_blk 3 (33, [.inr (19, 0), .inl (.int x1), .inl (.int x2), .inl (.int x3), .inl (.int y1), .inl (.int (x5 + (1 : Int32)))], [], h2) rfl ?_
      refine S_nrm [.inr (19, 0), .inl (.int x1), .inl (.int x2), .inl (.int x3), .inl (.int y1), .inl (.int (x5 + (1 : Int32)))] rfl ?_
      exact hrc y1 (x5 + (1 : Int32)) h2
theorem sl_X10_leastFrom_33    (x1 : Int32) (x2 : Int32) (x3 : Int32) : ∀ (F : Nat) (x4 : Int32) (x5 : Int32) (h : AH), Sim PP (4) k_X10_leastFrom (33, [.inr (19, 0), .inl (.int x1), .inl (.int x2), .inl (.int x3), .inl (.int x4), .inl (.int x5)], [], h) (l_X10_leastFrom_33 F x1 x2 x3 x4 x5 h) (fE PP (4) k_X10_leastFrom 45 (fun v => [.inr (19, 0), .inl (.int x1), av0, .inl (.int x3), av0, av0])) := by
  intro F
  induction F with
  | zero => intro x4 x5 h; exact S_none
  | succ F ih => intro x4 x5 h; exact sb_X10_leastFrom_33 (l_X10_leastFrom_33 F) x1 x2 x3 x4 x5 ih h
theorem sc_X10_leastFrom_45    (x1 : Int32) (x3 : Int32)  (h : AH) : Sim PP (4) k_X10_leastFrom (45, [.inr (19, 0), .inl (.int x1), av0, .inl (.int x3), av0, av0], [], h) (c_X10_leastFrom_45  x1 x3 h) fI := by
  unfold c_X10_leastFrom_45
  refine S_di 2 47 138 0 [.inr (19, 0), .inl (.int x1), av0, .inl (.int x3), av0, av0] [.inl (.int x1), .inl (.int x3)] [.inl (.int x3), .inl (.int x1)] [.inr (19, 0), .inl (.int x1), av0, .inl (.int x3), av0, av0] [] h rfl rfl pp_138 (by decide) (s_X11_has x3 x1 h) (fun y1 h2 => ?_)
  refine S_br 1 54 49 [.inr (19, 0), .inl (.int x1), av0, .inl (.int x3), av0, av0] [] h2 rfl (fun _ => ?_) (fun _ => ?_)
  · exact S_ri 1 (55, [.inr (19, 0), .inl (.int x1), av0, .inl (.int x3), av0, av0], [.inl (.int (-9 : Int32))], h2) rfl rfl
  · refine S_grd 4 (53, [.inr (19, 0), .inl (.int x1), av0, .inl (.int x3), av0, av0], [.inl (.int (h2.1 21 0 x1.toNatClampNeg))], h2) rfl (fun _ => ?_)
    exact S_ri 1 (55, [.inr (19, 0), .inl (.int x1), av0, .inl (.int x3), av0, av0], [.inl (.int (h2.1 21 0 x1.toNatClampNeg))], h2) rfl rfl
theorem sc_X10_leastFrom_29    (x1 : Int32) (x2 : Int32) (x3 : Int32)  (h : AH) : Sim PP (4) k_X10_leastFrom (29, [.inr (19, 0), .inl (.int x1), .inl (.int x2), .inl (.int x3), av0, av0], [], h) (c_X10_leastFrom_29  x1 x2 x3 h) fI := by
  unfold c_X10_leastFrom_29
  refine S_blk 4 (33, [.inr (19, 0), .inl (.int x1), .inl (.int x2), .inl (.int x3), .inl (.int (1 : Int32)), .inl (.int (0 : Int32))], [], h) rfl ?_
  refine S_nrm [.inr (19, 0), .inl (.int x1), .inl (.int x2), .inl (.int x3), .inl (.int (1 : Int32)), .inl (.int (0 : Int32))] rfl ?_
  refine S_lp 45 (fun v => [.inr (19, 0), .inl (.int x1), av0, .inl (.int x3), av0, av0]) (sl_X10_leastFrom_33 x1 x2 x3 FU (1 : Int32) (0 : Int32) h) (fun v h => ?_)
  exact sc_X10_leastFrom_45 x1 x3 h
theorem s_X10_leastFrom (x1 : Int32) (x2 : Int32) (h : AH) : Sim PP (4) k_X10_leastFrom (0, [.inr (19, 0), .inl (.int x1), .inl (.int x2), av0, av0, av0], [], h) (f_X10_leastFrom x1 x2 h) fI := by
  unfold f_X10_leastFrom
  refine S_di 2 2 7 3 [.inr (19, 0), .inl (.int x1), .inl (.int x2), av0, av0, av0] [.inr (18, 0)] [.inr (18, 0)] [.inr (19, 0), .inl (.int x1), .inl (.int x2), av0, av0, av0] [] h rfl rfl pp_7 (by decide) (s_X0_standing  h) (fun y1 h2 => ?_)
  refine S_blk 3 (6, [.inr (19, 0), .inl (.int x1), .inl (.int x2), .inl (.int y1), .inl (.int (0 : Int32)), av0], [], h2) rfl ?_
  refine S_nrm [.inr (19, 0), .inl (.int x1), .inl (.int x2), .inl (.int y1), .inl (.int (0 : Int32)), av0] rfl ?_
  refine S_lp 29 (fun v => [.inr (19, 0), .inl (.int x1), .inl (.int x2), .inl (.int y1), av0, av0]) (sl_X10_leastFrom_6 x1 x2 y1 FU (0 : Int32) h2) (fun v h => ?_)
  exact sc_X10_leastFrom_29 x1 x2 y1 h
theorem sb_X10_firstLeast_6  (rc : Int32 → Int32 → Int32 → Int32 → AH → Option (Int32 × AH)) (x1 : Int32) (x2 : Int32) (x3 : Int32) (x4 : Int32) (hrc : ∀ (x1 : Int32) (x2 : Int32) (x3 : Int32) (x4 : Int32) (h : AH), Sim PP (4) k_X10_firstLeast (6, [.inr (19, 0), .inl (.int x1), .inl (.int x2), .inl (.int x3), .inl (.int x4)], [], h) (rc x1 x2 x3 x4 h) fI)  (h : AH) : Sim PP (4) k_X10_firstLeast (6, [.inr (19, 0), .inl (.int x1), .inl (.int x2), .inl (.int x3), .inl (.int x4)], [], h) (b_X10_firstLeast_6 rc x1 x2 x3 x4 h) fI := by
  unfold b_X10_firstLeast_6
  refine S_br 5 36 11 [.inr (19, 0), .inl (.int x1), .inl (.int x2), .inl (.int x3), .inl (.int x4)] [] h rfl (fun _ => ?_) (fun _ => ?_)
  · exact S_ri 1 (37, [av0, av0, av0, av0, av0], [.inl (.int (-9 : Int32))], h) rfl rfl
  · refine S_grd 5 (16, [.inr (19, 0), .inl (.int x1), .inl (.int x2), .inl (.int x3), .inl (.int x4)], [.inl (.int (h.1 15 0 x4.toNatClampNeg))], h) rfl (fun _ => ?_)
    refine S_br 2 18 34 [.inr (19, 0), .inl (.int x1), .inl (.int x2), .inl (.int x3), .inl (.int x4)] [] h rfl (fun _ => ?_) (fun _ => ?_)
    · refine S_di 3 21 74 2 [.inr (19, 0), .inl (.int x1), .inl (.int x2), .inl (.int x3), .inl (.int x4)] [.inl (.int x3), .inl (.int x4), .inr (19, 0)] [.inr (19, 0), .inl (.int x4), .inl (.int x3)] [.inr (19, 0), .inl (.int x1), .inl (.int x2), .inl (.int x3), .inl (.int x4)] [] h rfl rfl pp_74 (by decide) (s_X10_isFirm x4 x3 h) (fun y1 h2 => ?_)
      refine S_br 1 34 23 [.inr (19, 0), .inl (.int x1), .inl (.int x2), .inl (.int x3), .inl (.int x4)] [] h2 rfl (fun _ => ?_) (fun _ => ?_)
      · refine S_blk 2 (6, [.inr (19, 0), .inl (.int x1), .inl (.int x2), .inl (.int x3), .inl (.int (x4 + (1 : Int32)))], [], h2) rfl ?_
        refine S_nrm [.inr (19, 0), .inl (.int x1), .inl (.int x2), .inl (.int x3), .inl (.int (x4 + (1 : Int32)))] rfl ?_
        exact hrc x1 x2 x3 (x4 + (1 : Int32)) h2
      · refine S_di 3 26 75 1 [.inr (19, 0), .inl (.int x1), .inl (.int x2), .inl (.int x3), .inl (.int x4)] [.inl (.int x2), .inl (.int x4), .inr (19, 0)] [.inr (19, 0), .inl (.int x4), .inl (.int x2), av0, av0, av0] [.inr (19, 0), .inl (.int x1), .inl (.int x2), .inl (.int x3), .inl (.int x4)] [] h2 rfl rfl pp_75 (by decide) (s_X10_costBy x4 x2 h2) (fun y3 h4 => ?_)
        refine S_grd 4 (31, [.inr (19, 0), .inl (.int x1), .inl (.int x2), .inl (.int x3), .inl (.int x4)], [.inl (.int (h4.1 21 0 x1.toNatClampNeg)), .inl (.int y3)], h4) rfl (fun _ => ?_)
        refine S_br 1 32 34 [.inr (19, 0), .inl (.int x1), .inl (.int x2), .inl (.int x3), .inl (.int x4)] [] h4 rfl (fun _ => ?_) (fun _ => ?_)
        · exact S_ri 1 (33, [av0, av0, av0, av0, .inl (.int x4)], [.inl (.int x4)], h4) rfl rfl
        · refine S_blk 2 (6, [.inr (19, 0), .inl (.int x1), .inl (.int x2), .inl (.int x3), .inl (.int (x4 + (1 : Int32)))], [], h4) rfl ?_
          refine S_nrm [.inr (19, 0), .inl (.int x1), .inl (.int x2), .inl (.int x3), .inl (.int (x4 + (1 : Int32)))] rfl ?_
          exact hrc x1 x2 x3 (x4 + (1 : Int32)) h4
    · refine S_blk 2 (6, [.inr (19, 0), .inl (.int x1), .inl (.int x2), .inl (.int x3), .inl (.int (x4 + (1 : Int32)))], [], h) rfl ?_
      refine S_nrm [.inr (19, 0), .inl (.int x1), .inl (.int x2), .inl (.int x3), .inl (.int (x4 + (1 : Int32)))] rfl ?_
      exact hrc x1 x2 x3 (x4 + (1 : Int32)) h
theorem sl_X10_firstLeast_6     : ∀ (F : Nat) (x1 : Int32) (x2 : Int32) (x3 : Int32) (x4 : Int32) (h : AH), Sim PP (4) k_X10_firstLeast (6, [.inr (19, 0), .inl (.int x1), .inl (.int x2), .inl (.int x3), .inl (.int x4)], [], h) (l_X10_firstLeast_6 F x1 x2 x3 x4 h) fI := by
  intro F
  induction F with
  | zero => intro x1 x2 x3 x4 h; exact S_none
  | succ F ih => intro x1 x2 x3 x4 h; exact sb_X10_firstLeast_6 (l_X10_firstLeast_6 F) x1 x2 x3 x4 ih h
theorem s_X10_firstLeast (x1 : Int32) (x2 : Int32) (h : AH) : Sim PP (4) k_X10_firstLeast (0, [.inr (19, 0), .inl (.int x1), .inl (.int x2), av0, av0], [], h) (f_X10_firstLeast x1 x2 h) fI := by
  unfold f_X10_firstLeast
  refine S_di 2 2 7 3 [.inr (19, 0), .inl (.int x1), .inl (.int x2), av0, av0] [.inr (18, 0)] [.inr (18, 0)] [.inr (19, 0), .inl (.int x1), .inl (.int x2), av0, av0] [] h rfl rfl pp_7 (by decide) (s_X0_standing  h) (fun y1 h2 => ?_)
  refine S_blk 3 (6, [.inr (19, 0), .inl (.int x1), .inl (.int x2), .inl (.int y1), .inl (.int (0 : Int32))], [], h2) rfl ?_
  refine S_nrm [.inr (19, 0), .inl (.int x1), .inl (.int x2), .inl (.int y1), .inl (.int (0 : Int32))] rfl ?_
  exact (sl_X10_firstLeast_6  FU x1 x2 y1 (0 : Int32) h2)
theorem s_X11_soonest (x1 : Int32) (h : AH) : Sim PP (5) k_X11_soonest (0, [.inr (0, 0), .inl (.int x1), av0], [], h) (f_X11_soonest x1 h) fI := by
  unfold f_X11_soonest
  refine S_di 2 2 136 0 [.inr (0, 0), .inl (.int x1), av0] [.inl (.int x1), .inr (0, 0)] [.inr (0, 0), .inl (.int x1)] [.inr (0, 0), .inl (.int x1), av0] [] h rfl rfl pp_136 (by decide) (s_X11_isClaim x1 h) (fun y1 h2 => ?_)
  refine S_br 1 4 6 [.inr (0, 0), .inl (.int x1), av0] [] h2 rfl (fun _ => ?_) (fun _ => ?_)
  · exact S_ri 1 (5, [.inr (0, 0), .inl (.int x1), av0], [.inl (.int (-1 : Int32))], h2) rfl rfl
  · refine S_di 4 10 71 4 [.inr (0, 0), .inl (.int x1), av0] [.inl (.int (0 : Int32)), .inl (.int x1), .inr (19, 0)] [.inr (19, 0), .inl (.int x1), .inl (.int (0 : Int32)), av0, av0, av0] [.inr (0, 0), .inl (.int x1), av0] [] h2 rfl rfl pp_71 (by decide) (s_X10_leastFrom x1 (0 : Int32) h2) (fun y3 h4 => ?_)
    refine S_br 4 22 15 [.inr (0, 0), .inl (.int x1), .inl (.int y3)] [] h4 rfl (fun _ => ?_) (fun _ => ?_)
    · exact S_ri 1 (23, [.inr (0, 0), .inl (.int x1), .inl (.int y3)], [.inl (.int y3)], h4) rfl rfl
    · refine S_di 5 20 72 4 [.inr (0, 0), .inl (.int x1), .inl (.int y3)] [.inl (.int (0 : Int32)), .inl (.int x1), .inr (19, 0), .inr (0, 0)] [.inr (19, 0), .inl (.int x1), .inl (.int (0 : Int32)), av0, av0] [.inr (0, 0), .inl (.int x1), .inl (.int y3)] [.inr (0, 0)] h4 rfl rfl pp_72 (by decide) (s_X10_firstLeast x1 (0 : Int32) h4) (fun y5 h6 => ?_)
      exact S_ri 2 (23, [.inr (0, 0), .inl (.int x1), .inl (.int y3)], [.inl (.int y3)], (hsI h6 0 0 14 y5)) rfl rfl
theorem sb_X12_takeThens_2  (rc : Int32 → AH → Option (Unit × AH)) (x1 : Int32) (hrc : ∀ (x1 : Int32) (h : AH), Sim PP (0) k_X12_takeThens (2, [.inr (34, 0), .inl (.int x1)], [], h) (rc x1 h) (fE PP (0) k_X12_takeThens 16 (fun v => [av0, av0])))  (h : AH) : Sim PP (0) k_X12_takeThens (2, [.inr (34, 0), .inl (.int x1)], [], h) (b_X12_takeThens_2 rc x1 h) (fE PP (0) k_X12_takeThens 16 (fun v => [av0, av0])) := by
  unfold b_X12_takeThens_2
  refine S_br 4 16 6 [.inr (34, 0), .inl (.int x1)] [] h rfl (fun _ => ?_) (fun _ => ?_)
  · exact S_ex () (fun v => [av0, av0]) rfl
  · refine S_grd 7 (13, [.inr (34, 0), .inl (.int x1)], [.inl (.int (h.1 56 0 x1.toNatClampNeg)), .inl (.int x1), .inr (55, 0)], h) rfl (fun _ => ?_)
    refine S_grd 1 (14, [.inr (34, 0), .inl (.int x1)], [], (hsI h 55 0 x1.toNatClampNeg (h.1 56 0 x1.toNatClampNeg))) rfl (fun _ => ?_)
    refine S_blk 2 (2, [.inr (34, 0), .inl (.int (x1 + (1 : Int32)))], [], (hsI h 55 0 x1.toNatClampNeg (h.1 56 0 x1.toNatClampNeg))) rfl ?_
    refine S_nrm [.inr (34, 0), .inl (.int (x1 + (1 : Int32)))] rfl ?_
    exact hrc (x1 + (1 : Int32)) (hsI h 55 0 x1.toNatClampNeg (h.1 56 0 x1.toNatClampNeg))
theorem sl_X12_takeThens_2     : ∀ (F : Nat) (x1 : Int32) (h : AH), Sim PP (0) k_X12_takeThens (2, [.inr (34, 0), .inl (.int x1)], [], h) (l_X12_takeThens_2 F x1 h) (fE PP (0) k_X12_takeThens 16 (fun v => [av0, av0])) := by
  intro F
  induction F with
  | zero => intro x1 h; exact S_none
  | succ F ih => intro x1 h; exact sb_X12_takeThens_2 (l_X12_takeThens_2 F) x1 ih h
theorem sc_X12_takeThens_16      (h : AH) : Sim PP (0) k_X12_takeThens (16, [av0, av0], [], h) (c_X12_takeThens_16   h) fV := by
  unfold c_X12_takeThens_16
  exact S_rv 0 (16, [av0, av0], [], h) rfl rfl
theorem s_X12_takeThens  (h : AH) : Sim PP (0) k_X12_takeThens (0, [.inr (34, 0), av0], [], h) (f_X12_takeThens  h) fV := by
  unfold f_X12_takeThens
  refine S_blk 2 (2, [.inr (34, 0), .inl (.int (0 : Int32))], [], h) rfl ?_
  refine S_nrm [.inr (34, 0), .inl (.int (0 : Int32))] rfl ?_
  refine S_lp 16 (fun v => [av0, av0]) (sl_X12_takeThens_2  FU (0 : Int32) h) (fun v h => ?_)
  exact sc_X12_takeThens_16 h
theorem s_X12_greater (x0 : Int32) (x1 : Int32) (h : AH) : Sim PP (0) k_X12_greater (0, [.inl (.int x0), .inl (.int x1)], [], h) (f_X12_greater x0 x1 h) fI := by
  unfold f_X12_greater
  refine S_br 3 5 3 [.inl (.int x0), .inl (.int x1)] [] h rfl (fun _ => ?_) (fun _ => ?_)
  · exact S_ri 1 (6, [.inl (.int x0), .inl (.int x1)], [.inl (.int x1)], h) rfl rfl
  · exact S_ri 2 (6, [.inl (.int x0), .inl (.int x1)], [.inl (.int x0)], h) rfl rfl
theorem sb_X12_greatestPart_4  (rc : Int32 → Int32 → Int32 → AH → Option (Int32 × AH)) (x1 : Int32) (x2 : Int32) (x3 : Int32) (hrc : ∀ (x2 : Int32) (x3 : Int32) (h : AH), Sim PP (1) k_X12_greatestPart (4, [.inr (34, 0), .inl (.int x1), .inl (.int x2), .inl (.int x3)], [], h) (rc x1 x2 x3 h) (fE PP (1) k_X12_greatestPart 35 (fun v => [av0, av0, .inl (.int v), av0])))  (h : AH) : Sim PP (1) k_X12_greatestPart (4, [.inr (34, 0), .inl (.int x1), .inl (.int x2), .inl (.int x3)], [], h) (b_X12_greatestPart_4 rc x1 x2 x3 h) (fE PP (1) k_X12_greatestPart 35 (fun v => [av0, av0, .inl (.int v), av0])) := by
  unfold b_X12_greatestPart_4
  refine S_br 4 35 8 [.inr (34, 0), .inl (.int x1), .inl (.int x2), .inl (.int x3)] [] h rfl (fun _ => ?_) (fun _ => ?_)
  · exact S_ex x2 (fun v => [av0, av0, .inl (.int v), av0]) rfl
  · refine S_grd 4 (12, [.inr (34, 0), .inl (.int x1), .inl (.int x2), .inl (.int x3)], [.inl (.int (h.1 43 0 x1.toNatClampNeg))], h) rfl (fun _ => ?_)
    refine S_di 1 13 155 0 [.inr (34, 0), .inl (.int x1), .inl (.int x2), .inl (.int x3)] [.inl (.int x3), .inl (.int (h.1 43 0 x1.toNatClampNeg))] [.inl (.int (h.1 43 0 x1.toNatClampNeg)), .inl (.int x3)] [.inr (34, 0), .inl (.int x1), .inl (.int x2), .inl (.int x3)] [] h rfl rfl pp_155 (by decide) (s_X12_has (h.1 43 0 x1.toNatClampNeg) x3 h) (fun y1 h2 => ?_)
    refine S_br 1 33 15 [.inr (34, 0), .inl (.int x1), .inl (.int x2), .inl (.int x3)] [] h2 rfl (fun _ => ?_) (fun _ => ?_)
    · refine S_blk 2 (4, [.inr (34, 0), .inl (.int x1), .inl (.int x2), .inl (.int (x3 + (1 : Int32)))], [], h2) rfl ?_
      refine S_nrm [.inr (34, 0), .inl (.int x1), .inl (.int x2), .inl (.int (x3 + (1 : Int32)))] rfl ?_
      exact hrc x2 (x3 + (1 : Int32)) h2
    · refine S_br 3 24 18 [.inr (34, 0), .inl (.int x1), .inl (.int x2), .inl (.int x3)] [] h2 rfl (fun _ => ?_) (fun _ => ?_)
      · refine S_blk 5 (4, [.inr (34, 0), .inl (.int x1), .inl (.int (-9 : Int32)), .inl (.int (x3 + (1 : Int32)))], [], h2) rfl ?_
        refine S_nrm [.inr (34, 0), .inl (.int x1), .inl (.int (-9 : Int32)), .inl (.int (x3 + (1 : Int32)))] rfl ?_
        exact hrc (-9 : Int32) (x3 + (1 : Int32)) h2
      · refine S_grd 4 (22, [.inr (34, 0), .inl (.int x1), .inl (.int x2), .inl (.int x3)], [.inl (.int (h2.1 55 0 x3.toNatClampNeg))], h2) rfl (fun _ => ?_)
        refine S_br 2 24 26 [.inr (34, 0), .inl (.int x1), .inl (.int x2), .inl (.int x3)] [] h2 rfl (fun _ => ?_) (fun _ => ?_)
        · refine S_blk 5 (4, [.inr (34, 0), .inl (.int x1), .inl (.int (-9 : Int32)), .inl (.int (x3 + (1 : Int32)))], [], h2) rfl ?_
          refine S_nrm [.inr (34, 0), .inl (.int x1), .inl (.int (-9 : Int32)), .inl (.int (x3 + (1 : Int32)))] rfl ?_
          exact hrc (-9 : Int32) (x3 + (1 : Int32)) h2
        · refine S_grd 5 (31, [.inr (34, 0), .inl (.int x1), .inl (.int x2), .inl (.int x3)], [.inl (.int (h2.1 55 0 x3.toNatClampNeg)), .inl (.int x2)], h2) rfl (fun _ => ?_)
          refine S_di 0 31 158 0 [.inr (34, 0), .inl (.int x1), .inl (.int x2), .inl (.int x3)] [.inl (.int (h2.1 55 0 x3.toNatClampNeg)), .inl (.int x2)] [.inl (.int x2), .inl (.int (h2.1 55 0 x3.toNatClampNeg))] [.inr (34, 0), .inl (.int x1), .inl (.int x2), .inl (.int x3)] [] h2 rfl rfl pp_158 (by decide) (s_X12_greater x2 (h2.1 55 0 x3.toNatClampNeg) h2) (fun y3 h4 => ?_)
          refine S_blk 3 (4, [.inr (34, 0), .inl (.int x1), .inl (.int y3), .inl (.int (x3 + (1 : Int32)))], [], h4) rfl ?_
          refine S_nrm [.inr (34, 0), .inl (.int x1), .inl (.int y3), .inl (.int (x3 + (1 : Int32)))] rfl ?_
          exact hrc y3 (x3 + (1 : Int32)) h4
theorem sl_X12_greatestPart_4    (x1 : Int32) : ∀ (F : Nat) (x2 : Int32) (x3 : Int32) (h : AH), Sim PP (1) k_X12_greatestPart (4, [.inr (34, 0), .inl (.int x1), .inl (.int x2), .inl (.int x3)], [], h) (l_X12_greatestPart_4 F x1 x2 x3 h) (fE PP (1) k_X12_greatestPart 35 (fun v => [av0, av0, .inl (.int v), av0])) := by
  intro F
  induction F with
  | zero => intro x2 x3 h; exact S_none
  | succ F ih => intro x2 x3 h; exact sb_X12_greatestPart_4 (l_X12_greatestPart_4 F) x1 x2 x3 ih h
theorem sc_X12_greatestPart_35    (x2 : Int32)  (h : AH) : Sim PP (1) k_X12_greatestPart (35, [av0, av0, .inl (.int x2), av0], [], h) (c_X12_greatestPart_35  x2 h) fI := by
  unfold c_X12_greatestPart_35
  exact S_ri 1 (36, [av0, av0, .inl (.int x2), av0], [.inl (.int x2)], h) rfl rfl
theorem s_X12_greatestPart (x1 : Int32) (h : AH) : Sim PP (1) k_X12_greatestPart (0, [.inr (34, 0), .inl (.int x1), av0, av0], [], h) (f_X12_greatestPart x1 h) fI := by
  unfold f_X12_greatestPart
  refine S_blk 4 (4, [.inr (34, 0), .inl (.int x1), .inl (.int (0 : Int32)), .inl (.int (0 : Int32))], [], h) rfl ?_
  refine S_nrm [.inr (34, 0), .inl (.int x1), .inl (.int (0 : Int32)), .inl (.int (0 : Int32))] rfl ?_
  refine S_lp 35 (fun v => [av0, av0, .inl (.int v), av0]) (sl_X12_greatestPart_4 x1 FU (0 : Int32) (0 : Int32) h) (fun v h => ?_)
  exact sc_X12_greatestPart_35 v h
theorem sb_X12_layFar_2  (rc : Int32 → AH → Option (Unit × AH)) (x1 : Int32) (hrc : ∀ (x1 : Int32) (h : AH), Sim PP (3) k_X12_layFar (2, [.inr (34, 0), .inl (.int x1), av0, av0], [], h) (rc x1 h) (fE PP (3) k_X12_layFar 26 (fun v => [.inr (34, 0), av0, av0, av0])))  (h : AH) : Sim PP (3) k_X12_layFar (2, [.inr (34, 0), .inl (.int x1), av0, av0], [], h) (b_X12_layFar_2 rc x1 h) (fE PP (3) k_X12_layFar 26 (fun v => [.inr (34, 0), av0, av0, av0])) := by
  unfold b_X12_layFar_2
  refine S_br 4 26 6 [.inr (34, 0), .inl (.int x1), av0, av0] [] h rfl (fun _ => ?_) (fun _ => ?_)
  · exact S_ex () (fun v => [.inr (34, 0), av0, av0, av0]) rfl
  · refine S_grd 7 (13, [.inr (34, 0), .inl (.int x1), av0, av0], [.inl (.int (h.1 41 0 x1.toNatClampNeg)), .inl (.int x1), .inr (56, 0)], h) rfl (fun _ => ?_)
    refine S_br 2 15 22 [.inr (34, 0), .inl (.int x1), av0, av0] [.inl (.int x1), .inr (56, 0)] h rfl (fun _ => ?_) (fun _ => ?_)
    · refine S_di 1 16 202 2 [.inr (34, 0), .inl (.int x1), av0, av0] [.inr (34, 0), .inl (.int x1), .inr (56, 0)] [.inr (34, 0)] [.inr (34, 0), .inl (.int x1), av0, av0] [.inl (.int x1), .inr (56, 0)] h rfl rfl pp_202 (by decide) (s_X12_standNow  h) (fun y1 h2 => ?_)
      refine S_di 1 18 155 0 [.inr (34, 0), .inl (.int x1), av0, av0] [.inl (.int x1), .inl (.int y1), .inl (.int x1), .inr (56, 0)] [.inl (.int y1), .inl (.int x1)] [.inr (34, 0), .inl (.int x1), av0, av0] [.inl (.int x1), .inr (56, 0)] h2 rfl rfl pp_155 (by decide) (s_X12_has y1 x1 h2) (fun y3 h4 => ?_)
      refine S_br 1 22 20 [.inr (34, 0), .inl (.int x1), av0, av0] [.inl (.int x1), .inr (56, 0)] h4 rfl (fun _ => ?_) (fun _ => ?_)
      · refine S_grd 2 (24, [.inr (34, 0), .inl (.int x1), av0, av0], [], (hsI h4 56 0 x1.toNatClampNeg (-9 : Int32))) rfl (fun _ => ?_)
        refine S_blk 2 (2, [.inr (34, 0), .inl (.int (x1 + (1 : Int32))), av0, av0], [], (hsI h4 56 0 x1.toNatClampNeg (-9 : Int32))) rfl ?_
        refine S_nrm [.inr (34, 0), .inl (.int (x1 + (1 : Int32))), av0, av0] rfl ?_
        exact hrc (x1 + (1 : Int32)) (hsI h4 56 0 x1.toNatClampNeg (-9 : Int32))
      · refine S_grd 3 (24, [.inr (34, 0), .inl (.int x1), av0, av0], [], (hsI h4 56 0 x1.toNatClampNeg (0 : Int32))) rfl (fun _ => ?_)
        refine S_blk 2 (2, [.inr (34, 0), .inl (.int (x1 + (1 : Int32))), av0, av0], [], (hsI h4 56 0 x1.toNatClampNeg (0 : Int32))) rfl ?_
        refine S_nrm [.inr (34, 0), .inl (.int (x1 + (1 : Int32))), av0, av0] rfl ?_
        exact hrc (x1 + (1 : Int32)) (hsI h4 56 0 x1.toNatClampNeg (0 : Int32))
    · refine S_grd 2 (24, [.inr (34, 0), .inl (.int x1), av0, av0], [], (hsI h 56 0 x1.toNatClampNeg (-9 : Int32))) rfl (fun _ => ?_)
      refine S_blk 2 (2, [.inr (34, 0), .inl (.int (x1 + (1 : Int32))), av0, av0], [], (hsI h 56 0 x1.toNatClampNeg (-9 : Int32))) rfl ?_
      refine S_nrm [.inr (34, 0), .inl (.int (x1 + (1 : Int32))), av0, av0] rfl ?_
      exact hrc (x1 + (1 : Int32)) (hsI h 56 0 x1.toNatClampNeg (-9 : Int32))
theorem sl_X12_layFar_2     : ∀ (F : Nat) (x1 : Int32) (h : AH), Sim PP (3) k_X12_layFar (2, [.inr (34, 0), .inl (.int x1), av0, av0], [], h) (l_X12_layFar_2 F x1 h) (fE PP (3) k_X12_layFar 26 (fun v => [.inr (34, 0), av0, av0, av0])) := by
  intro F
  induction F with
  | zero => intro x1 h; exact S_none
  | succ F ih => intro x1 h; exact sb_X12_layFar_2 (l_X12_layFar_2 F) x1 ih h
theorem sb_X12_layFar_36  (rc : Int32 → Int32 → AH → Option (Unit × AH)) (x1 : Int32) (x2 : Int32) (hrc : ∀ (x2 : Int32) (h : AH), Sim PP (3) k_X12_layFar (36, [.inr (34, 0), .inl (.int x1), .inl (.int x2), av0], [], h) (rc x1 x2 h) (fE PP (3) k_X12_layFar 72 (fun v => [.inr (34, 0), .inl (.int x1), av0, av0])))  (h : AH) : Sim PP (3) k_X12_layFar (36, [.inr (34, 0), .inl (.int x1), .inl (.int x2), av0], [], h) (b_X12_layFar_36 rc x1 x2 h) (fE PP (3) k_X12_layFar 72 (fun v => [.inr (34, 0), .inl (.int x1), av0, av0])) := by
  unfold b_X12_layFar_36
  refine S_br 4 72 40 [.inr (34, 0), .inl (.int x1), .inl (.int x2), av0] [] h rfl (fun _ => ?_) (fun _ => ?_)
  · exact S_ex () (fun v => [.inr (34, 0), .inl (.int x1), av0, av0]) rfl
  · refine S_grd 4 (44, [.inr (34, 0), .inl (.int x1), .inl (.int x2), av0], [.inl (.int (h.1 42 0 x2.toNatClampNeg))], h) rfl (fun _ => ?_)
    refine S_grd 8 (52, [.inr (34, 0), .inl (.int x1), .inl (.int x2), .inl (.int (h.1 42 0 x2.toNatClampNeg))], [.inl (.int (h.1 56 0 (h.1 42 0 x2.toNatClampNeg).toNatClampNeg)), .inl (.int (h.1 42 0 x2.toNatClampNeg)), .inr (56, 0)], h) rfl (fun _ => ?_)
    refine S_br 2 54 65 [.inr (34, 0), .inl (.int x1), .inl (.int x2), .inl (.int (h.1 42 0 x2.toNatClampNeg))] [.inl (.int (h.1 42 0 x2.toNatClampNeg)), .inr (56, 0)] h rfl (fun _ => ?_) (fun _ => ?_)
    · refine S_di 2 56 197 0 [.inr (34, 0), .inl (.int x1), .inl (.int x2), .inl (.int (h.1 42 0 x2.toNatClampNeg))] [.inl (.int x2), .inr (34, 0), .inl (.int (h.1 42 0 x2.toNatClampNeg)), .inr (56, 0)] [.inr (34, 0), .inl (.int x2)] [.inr (34, 0), .inl (.int x1), .inl (.int x2), .inl (.int (h.1 42 0 x2.toNatClampNeg))] [.inl (.int (h.1 42 0 x2.toNatClampNeg)), .inr (56, 0)] h rfl rfl pp_197 (by decide) (s_X12_isUsable x2 h) (fun y1 h2 => ?_)
      refine S_br 1 65 58 [.inr (34, 0), .inl (.int x1), .inl (.int x2), .inl (.int (h.1 42 0 x2.toNatClampNeg))] [.inl (.int (h.1 42 0 x2.toNatClampNeg)), .inr (56, 0)] h2 rfl (fun _ => ?_) (fun _ => ?_)
      · refine S_grd 4 (69, [.inr (34, 0), .inl (.int x1), .inl (.int x2), .inl (.int (h.1 42 0 x2.toNatClampNeg))], [.inl (.int (h2.1 56 0 (h.1 42 0 x2.toNatClampNeg).toNatClampNeg)), .inl (.int (h.1 42 0 x2.toNatClampNeg)), .inr (56, 0)], h2) rfl (fun _ => ?_)
        refine S_grd 1 (70, [.inr (34, 0), .inl (.int x1), .inl (.int x2), .inl (.int (h.1 42 0 x2.toNatClampNeg))], [], (hsI h2 56 0 (h.1 42 0 x2.toNatClampNeg).toNatClampNeg (h2.1 56 0 (h.1 42 0 x2.toNatClampNeg).toNatClampNeg))) rfl (fun _ => ?_)
        refine S_blk 2 (36, [.inr (34, 0), .inl (.int x1), .inl (.int (x2 + (1 : Int32))), .inl (.int (h.1 42 0 x2.toNatClampNeg))], [], (hsI h2 56 0 (h.1 42 0 x2.toNatClampNeg).toNatClampNeg (h2.1 56 0 (h.1 42 0 x2.toNatClampNeg).toNatClampNeg))) rfl ?_
        refine S_nrm [.inr (34, 0), .inl (.int x1), .inl (.int (x2 + (1 : Int32))), av0] rfl ?_
        exact hrc (x2 + (1 : Int32)) (hsI h2 56 0 (h.1 42 0 x2.toNatClampNeg).toNatClampNeg (h2.1 56 0 (h.1 42 0 x2.toNatClampNeg).toNatClampNeg))
      · refine S_di 2 60 233 1 [.inr (34, 0), .inl (.int x1), .inl (.int x2), .inl (.int (h.1 42 0 x2.toNatClampNeg))] [.inl (.int x2), .inr (34, 0), .inl (.int (h.1 42 0 x2.toNatClampNeg)), .inr (56, 0)] [.inr (34, 0), .inl (.int x2), av0, av0] [.inr (34, 0), .inl (.int x1), .inl (.int x2), .inl (.int (h.1 42 0 x2.toNatClampNeg))] [.inl (.int (h.1 42 0 x2.toNatClampNeg)), .inr (56, 0)] h2 rfl rfl pp_233 (by decide) (s_X12_greatestPart x2 h2) (fun y3 h4 => ?_)
        refine S_br 2 65 63 [.inr (34, 0), .inl (.int x1), .inl (.int x2), .inl (.int (h.1 42 0 x2.toNatClampNeg))] [.inl (.int (h.1 42 0 x2.toNatClampNeg)), .inr (56, 0)] h4 rfl (fun _ => ?_) (fun _ => ?_)
        · refine S_grd 4 (69, [.inr (34, 0), .inl (.int x1), .inl (.int x2), .inl (.int (h.1 42 0 x2.toNatClampNeg))], [.inl (.int (h4.1 56 0 (h.1 42 0 x2.toNatClampNeg).toNatClampNeg)), .inl (.int (h.1 42 0 x2.toNatClampNeg)), .inr (56, 0)], h4) rfl (fun _ => ?_)
          refine S_grd 1 (70, [.inr (34, 0), .inl (.int x1), .inl (.int x2), .inl (.int (h.1 42 0 x2.toNatClampNeg))], [], (hsI h4 56 0 (h.1 42 0 x2.toNatClampNeg).toNatClampNeg (h4.1 56 0 (h.1 42 0 x2.toNatClampNeg).toNatClampNeg))) rfl (fun _ => ?_)
          refine S_blk 2 (36, [.inr (34, 0), .inl (.int x1), .inl (.int (x2 + (1 : Int32))), .inl (.int (h.1 42 0 x2.toNatClampNeg))], [], (hsI h4 56 0 (h.1 42 0 x2.toNatClampNeg).toNatClampNeg (h4.1 56 0 (h.1 42 0 x2.toNatClampNeg).toNatClampNeg))) rfl ?_
          refine S_nrm [.inr (34, 0), .inl (.int x1), .inl (.int (x2 + (1 : Int32))), av0] rfl ?_
          exact hrc (x2 + (1 : Int32)) (hsI h4 56 0 (h.1 42 0 x2.toNatClampNeg).toNatClampNeg (h4.1 56 0 (h.1 42 0 x2.toNatClampNeg).toNatClampNeg))
        · refine S_grd 3 (70, [.inr (34, 0), .inl (.int x1), .inl (.int x2), .inl (.int (h.1 42 0 x2.toNatClampNeg))], [], (hsI h4 56 0 (h.1 42 0 x2.toNatClampNeg).toNatClampNeg x1)) rfl (fun _ => ?_)
          refine S_blk 2 (36, [.inr (34, 0), .inl (.int x1), .inl (.int (x2 + (1 : Int32))), .inl (.int (h.1 42 0 x2.toNatClampNeg))], [], (hsI h4 56 0 (h.1 42 0 x2.toNatClampNeg).toNatClampNeg x1)) rfl ?_
          refine S_nrm [.inr (34, 0), .inl (.int x1), .inl (.int (x2 + (1 : Int32))), av0] rfl ?_
          exact hrc (x2 + (1 : Int32)) (hsI h4 56 0 (h.1 42 0 x2.toNatClampNeg).toNatClampNeg x1)
    · refine S_grd 4 (69, [.inr (34, 0), .inl (.int x1), .inl (.int x2), .inl (.int (h.1 42 0 x2.toNatClampNeg))], [.inl (.int (h.1 56 0 (h.1 42 0 x2.toNatClampNeg).toNatClampNeg)), .inl (.int (h.1 42 0 x2.toNatClampNeg)), .inr (56, 0)], h) rfl (fun _ => ?_)
      refine S_grd 1 (70, [.inr (34, 0), .inl (.int x1), .inl (.int x2), .inl (.int (h.1 42 0 x2.toNatClampNeg))], [], (hsI h 56 0 (h.1 42 0 x2.toNatClampNeg).toNatClampNeg (h.1 56 0 (h.1 42 0 x2.toNatClampNeg).toNatClampNeg))) rfl (fun _ => ?_)
      refine S_blk 2 (36, [.inr (34, 0), .inl (.int x1), .inl (.int (x2 + (1 : Int32))), .inl (.int (h.1 42 0 x2.toNatClampNeg))], [], (hsI h 56 0 (h.1 42 0 x2.toNatClampNeg).toNatClampNeg (h.1 56 0 (h.1 42 0 x2.toNatClampNeg).toNatClampNeg))) rfl ?_
      refine S_nrm [.inr (34, 0), .inl (.int x1), .inl (.int (x2 + (1 : Int32))), av0] rfl ?_
      exact hrc (x2 + (1 : Int32)) (hsI h 56 0 (h.1 42 0 x2.toNatClampNeg).toNatClampNeg (h.1 56 0 (h.1 42 0 x2.toNatClampNeg).toNatClampNeg))
theorem sl_X12_layFar_36    (x1 : Int32) : ∀ (F : Nat) (x2 : Int32) (h : AH), Sim PP (3) k_X12_layFar (36, [.inr (34, 0), .inl (.int x1), .inl (.int x2), av0], [], h) (l_X12_layFar_36 F x1 x2 h) (fE PP (3) k_X12_layFar 72 (fun v => [.inr (34, 0), .inl (.int x1), av0, av0])) := by
  intro F
  induction F with
  | zero => intro x2 h; exact S_none
  | succ F ih => intro x2 h; exact sb_X12_layFar_36 (l_X12_layFar_36 F) x1 x2 ih h
theorem sc_X12_layFar_72  (rc : Int32 → AH → Option (Unit × AH))  (x1 : Int32) (hrc : ∀ (x1 : Int32) (h : AH), Sim PP (3) k_X12_layFar (28, [.inr (34, 0), .inl (.int x1), av0, av0], [], h) (rc x1 h) (fE PP (3) k_X12_layFar 74 (fun v => [.inr (34, 0), av0, av0, av0]))) (h : AH) : Sim PP (3) k_X12_layFar (72, [.inr (34, 0), .inl (.int x1), av0, av0], [], h) (c_X12_layFar_72 rc x1 h) (fE PP (3) k_X12_layFar 74 (fun v => [.inr (34, 0), av0, av0, av0])) := by
  unfold c_X12_layFar_72
  refine S_blk 2 (28, [.inr (34, 0), .inl (.int (x1 + (1 : Int32))), av0, av0], [], h) rfl ?_
  refine S_nrm [.inr (34, 0), .inl (.int (x1 + (1 : Int32))), av0, av0] rfl ?_
  exact hrc (x1 + (1 : Int32)) h
theorem sb_X12_layFar_28  (rc : Int32 → AH → Option (Unit × AH)) (x1 : Int32) (hrc : ∀ (x1 : Int32) (h : AH), Sim PP (3) k_X12_layFar (28, [.inr (34, 0), .inl (.int x1), av0, av0], [], h) (rc x1 h) (fE PP (3) k_X12_layFar 74 (fun v => [.inr (34, 0), av0, av0, av0])))  (h : AH) : Sim PP (3) k_X12_layFar (28, [.inr (34, 0), .inl (.int x1), av0, av0], [], h) (b_X12_layFar_28 rc x1 h) (fE PP (3) k_X12_layFar 74 (fun v => [.inr (34, 0), av0, av0, av0])) := by
  unfold b_X12_layFar_28
  refine S_br 4 74 32 [.inr (34, 0), .inl (.int x1), av0, av0] [] h rfl (fun _ => ?_) (fun _ => ?_)
  · exact S_ex () (fun v => [.inr (34, 0), av0, av0, av0]) rfl
  · refine S_dv 1 33 231 0 [.inr (34, 0), .inl (.int x1), av0, av0] [.inr (34, 0)] [.inr (34, 0), av0] [.inr (34, 0), .inl (.int x1), av0, av0] [] h rfl rfl pp_231 (by decide) (s_X12_takeThens  h) (fun _ h2 => ?_)
    refine S_blk 2 (36, [.inr (34, 0), .inl (.int x1), .inl (.int (0 : Int32)), av0], [], h2) rfl ?_
    refine S_nrm [.inr (34, 0), .inl (.int x1), .inl (.int (0 : Int32)), av0] rfl ?_
    refine S_lp 72 (fun v => [.inr (34, 0), .inl (.int x1), av0, av0]) (sl_X12_layFar_36 x1 FU (0 : Int32) h2) (fun v h => ?_)
    exact sc_X12_layFar_72 rc x1 hrc h
theorem sl_X12_layFar_28     : ∀ (F : Nat) (x1 : Int32) (h : AH), Sim PP (3) k_X12_layFar (28, [.inr (34, 0), .inl (.int x1), av0, av0], [], h) (l_X12_layFar_28 F x1 h) (fE PP (3) k_X12_layFar 74 (fun v => [.inr (34, 0), av0, av0, av0])) := by
  intro F
  induction F with
  | zero => intro x1 h; exact S_none
  | succ F ih => intro x1 h; exact sb_X12_layFar_28 (l_X12_layFar_28 F) x1 ih h
theorem sc_X12_layFar_74      (h : AH) : Sim PP (3) k_X12_layFar (74, [.inr (34, 0), av0, av0, av0], [], h) (c_X12_layFar_74   h) fV := by
  unfold c_X12_layFar_74
  refine S_dv 1 75 231 0 [.inr (34, 0), av0, av0, av0] [.inr (34, 0)] [.inr (34, 0), av0] [.inr (34, 0), av0, av0, av0] [] h rfl rfl pp_231 (by decide) (s_X12_takeThens  h) (fun _ h2 => ?_)
  exact S_rv 0 (76, [.inr (34, 0), av0, av0, av0], [], h2) rfl rfl
theorem sc_X12_layFar_26      (h : AH) : Sim PP (3) k_X12_layFar (26, [.inr (34, 0), av0, av0, av0], [], h) (c_X12_layFar_26   h) fV := by
  unfold c_X12_layFar_26
  refine S_blk 2 (28, [.inr (34, 0), .inl (.int (1 : Int32)), av0, av0], [], h) rfl ?_
  refine S_nrm [.inr (34, 0), .inl (.int (1 : Int32)), av0, av0] rfl ?_
  refine S_lp 74 (fun v => [.inr (34, 0), av0, av0, av0]) (sl_X12_layFar_28  FU (1 : Int32) h) (fun v h => ?_)
  exact sc_X12_layFar_74 h
theorem s_X12_layFar  (h : AH) : Sim PP (3) k_X12_layFar (0, [.inr (34, 0), av0, av0, av0], [], h) (f_X12_layFar  h) fV := by
  unfold f_X12_layFar
  refine S_blk 2 (2, [.inr (34, 0), .inl (.int (0 : Int32)), av0, av0], [], h) rfl ?_
  refine S_nrm [.inr (34, 0), .inl (.int (0 : Int32)), av0, av0] rfl ?_
  refine S_lp 26 (fun v => [.inr (34, 0), av0, av0, av0]) (sl_X12_layFar_2  FU (0 : Int32) h) (fun v h => ?_)
  exact sc_X12_layFar_26 h
theorem sb_X12_soonest_23  (rc : Int32 → Int32 → Int32 → AH → Option (Int32 × AH)) (x1 : Int32) (x2 : Int32) (x3 : Int32) (hrc : ∀ (x2 : Int32) (x3 : Int32) (h : AH), Sim PP (4) k_X12_soonest (23, [.inr (34, 0), .inl (.int x1), .inl (.int x2), .inl (.int x3), av0], [], h) (rc x1 x2 x3 h) (fE PP (4) k_X12_soonest 56 (fun v => [.inr (34, 0), .inl (.int x1), .inl (.int v), av0, av0])))  (h : AH) : Sim PP (4) k_X12_soonest (23, [.inr (34, 0), .inl (.int x1), .inl (.int x2), .inl (.int x3), av0], [], h) (b_X12_soonest_23 rc x1 x2 x3 h) (fE PP (4) k_X12_soonest 56 (fun v => [.inr (34, 0), .inl (.int x1), .inl (.int v), av0, av0])) := by
  unfold b_X12_soonest_23
  refine S_br 2 56 25 [.inr (34, 0), .inl (.int x1), .inl (.int x2), .inl (.int x3), av0] [] h rfl (fun _ => ?_) (fun _ => ?_)
  · exact S_ex x2 (fun v => [.inr (34, 0), .inl (.int x1), .inl (.int v), av0, av0]) rfl
  · refine S_di 2 27 233 1 [.inr (34, 0), .inl (.int x1), .inl (.int x2), .inl (.int x3), av0] [.inl (.int x3), .inr (34, 0)] [.inr (34, 0), .inl (.int x3), av0, av0] [.inr (34, 0), .inl (.int x1), .inl (.int x2), .inl (.int x3), av0] [] h rfl rfl pp_233 (by decide) (s_X12_greatestPart x3 h) (fun y1 h2 => ?_)
    refine S_grd 5 (33, [.inr (34, 0), .inl (.int x1), .inl (.int x2), .inl (.int x3), .inl (.int y1)], [.inl (.int (h2.1 42 0 x3.toNatClampNeg))], h2) rfl (fun _ => ?_)
    refine S_br 2 35 52 [.inr (34, 0), .inl (.int x1), .inl (.int x2), .inl (.int x3), .inl (.int y1)] [] h2 rfl (fun _ => ?_) (fun _ => ?_)
    · refine S_di 2 37 197 0 [.inr (34, 0), .inl (.int x1), .inl (.int x2), .inl (.int x3), .inl (.int y1)] [.inl (.int x3), .inr (34, 0)] [.inr (34, 0), .inl (.int x3)] [.inr (34, 0), .inl (.int x1), .inl (.int x2), .inl (.int x3), .inl (.int y1)] [] h2 rfl rfl pp_197 (by decide) (s_X12_isUsable x3 h2) (fun y3 h4 => ?_)
      refine S_br 1 52 39 [.inr (34, 0), .inl (.int x1), .inl (.int x2), .inl (.int x3), .inl (.int y1)] [] h4 rfl (fun _ => ?_) (fun _ => ?_)
      · refine S_blk 4 (23, [.inr (34, 0), .inl (.int x1), .inl (.int x2), .inl (.int (x3 + (-1 : Int32))), .inl (.int y1)], [], h4) rfl ?_
        refine S_nrm [.inr (34, 0), .inl (.int x1), .inl (.int x2), .inl (.int (x3 + (-1 : Int32))), av0] rfl ?_
        exact hrc x2 (x3 + (-1 : Int32)) h4
      · refine S_br 3 52 42 [.inr (34, 0), .inl (.int x1), .inl (.int x2), .inl (.int x3), .inl (.int y1)] [] h4 rfl (fun _ => ?_) (fun _ => ?_)
        · refine S_blk 4 (23, [.inr (34, 0), .inl (.int x1), .inl (.int x2), .inl (.int (x3 + (-1 : Int32))), .inl (.int y1)], [], h4) rfl ?_
          refine S_nrm [.inr (34, 0), .inl (.int x1), .inl (.int x2), .inl (.int (x3 + (-1 : Int32))), av0] rfl ?_
          exact hrc x2 (x3 + (-1 : Int32)) h4
        · refine S_grd 7 (49, [.inr (34, 0), .inl (.int x1), .inl (.int x2), .inl (.int x3), .inl (.int y1)], [.inl (.int (h4.1 55 0 x1.toNatClampNeg)), .inl (.int (y1 + (1 : Int32)))], h4) rfl (fun _ => ?_)
          refine S_br 1 50 52 [.inr (34, 0), .inl (.int x1), .inl (.int x2), .inl (.int x3), .inl (.int y1)] [] h4 rfl (fun _ => ?_) (fun _ => ?_)
          · refine S_blk 5 (23, [.inr (34, 0), .inl (.int x1), .inl (.int x3), .inl (.int (x3 + (-1 : Int32))), .inl (.int y1)], [], h4) rfl ?_
            refine S_nrm [.inr (34, 0), .inl (.int x1), .inl (.int x3), .inl (.int (x3 + (-1 : Int32))), av0] rfl ?_
            exact hrc x3 (x3 + (-1 : Int32)) h4
          · refine S_blk 4 (23, [.inr (34, 0), .inl (.int x1), .inl (.int x2), .inl (.int (x3 + (-1 : Int32))), .inl (.int y1)], [], h4) rfl ?_
            refine S_nrm [.inr (34, 0), .inl (.int x1), .inl (.int x2), .inl (.int (x3 + (-1 : Int32))), av0] rfl ?_
            exact hrc x2 (x3 + (-1 : Int32)) h4
    · refine S_blk 4 (23, [.inr (34, 0), .inl (.int x1), .inl (.int x2), .inl (.int (x3 + (-1 : Int32))), .inl (.int y1)], [], h2) rfl ?_
      refine S_nrm [.inr (34, 0), .inl (.int x1), .inl (.int x2), .inl (.int (x3 + (-1 : Int32))), av0] rfl ?_
      exact hrc x2 (x3 + (-1 : Int32)) h2
theorem sl_X12_soonest_23    (x1 : Int32) : ∀ (F : Nat) (x2 : Int32) (x3 : Int32) (h : AH), Sim PP (4) k_X12_soonest (23, [.inr (34, 0), .inl (.int x1), .inl (.int x2), .inl (.int x3), av0], [], h) (l_X12_soonest_23 F x1 x2 x3 h) (fE PP (4) k_X12_soonest 56 (fun v => [.inr (34, 0), .inl (.int x1), .inl (.int v), av0, av0])) := by
  intro F
  induction F with
  | zero => intro x2 x3 h; exact S_none
  | succ F ih => intro x2 x3 h; exact sb_X12_soonest_23 (l_X12_soonest_23 F) x1 x2 x3 ih h
theorem sc_X12_soonest_56    (x1 : Int32) (x2 : Int32)  (h : AH) : Sim PP (4) k_X12_soonest (56, [.inr (34, 0), .inl (.int x1), .inl (.int x2), av0, av0], [], h) (c_X12_soonest_56  x1 x2 h) fI := by
  unfold c_X12_soonest_56
  refine S_grd 6 (62, [.inr (34, 0), .inl (.int x1), .inl (.int x2), av0, av0], [.inl (.int (h.1 55 0 x1.toNatClampNeg)), .inl (.int x2), .inr (34, 0)], h) rfl (fun _ => ?_)
  refine S_di 0 62 162 0 [.inr (34, 0), .inl (.int x1), .inl (.int x2), av0, av0] [.inl (.int (h.1 55 0 x1.toNatClampNeg)), .inl (.int x2), .inr (34, 0)] [.inr (34, 0), .inl (.int x2), .inl (.int (h.1 55 0 x1.toNatClampNeg))] [.inr (34, 0), .inl (.int x1), .inl (.int x2), av0, av0] [] h rfl rfl pp_162 (by decide) (s_X12_tells x2 (h.1 55 0 x1.toNatClampNeg) h) (fun y1 h2 => ?_)
  exact S_ri 0 (63, [.inr (34, 0), .inl (.int x1), .inl (.int x2), av0, av0], [.inl (.int y1)], h2) rfl rfl
theorem s_X12_soonest (x1 : Int32) (h : AH) : Sim PP (4) k_X12_soonest (0, [.inr (34, 0), .inl (.int x1), av0, av0, av0], [], h) (f_X12_soonest x1 h) fI := by
  unfold f_X12_soonest
  refine S_di 2 2 189 1 [.inr (34, 0), .inl (.int x1), av0, av0, av0] [.inl (.int x1), .inr (34, 0)] [.inr (34, 0), .inl (.int x1)] [.inr (34, 0), .inl (.int x1), av0, av0, av0] [] h rfl rfl pp_189 (by decide) (s_X12_isClaim x1 h) (fun y1 h2 => ?_)
  refine S_br 1 4 6 [.inr (34, 0), .inl (.int x1), av0, av0, av0] [] h2 rfl (fun _ => ?_) (fun _ => ?_)
  · exact S_ri 1 (5, [.inr (34, 0), .inl (.int x1), av0, av0, av0], [.inl (.int (-1 : Int32))], h2) rfl rfl
  · refine S_dv 1 7 232 3 [.inr (34, 0), .inl (.int x1), av0, av0, av0] [.inr (34, 0)] [.inr (34, 0), av0, av0, av0] [.inr (34, 0), .inl (.int x1), av0, av0, av0] [] h2 rfl rfl pp_232 (by decide) (s_X12_layFar  h2) (fun _ h4 => ?_)
    refine S_grd 4 (12, [.inr (34, 0), .inl (.int x1), av0, av0, av0], [.inl (.int (h4.1 55 0 x1.toNatClampNeg))], h4) rfl (fun _ => ?_)
    refine S_br 2 14 16 [.inr (34, 0), .inl (.int x1), av0, av0, av0] [] h4 rfl (fun _ => ?_) (fun _ => ?_)
    · exact S_ri 1 (15, [.inr (34, 0), .inl (.int x1), av0, av0, av0], [.inl (.int (-9 : Int32))], h4) rfl rfl
    · refine S_blk 7 (23, [.inr (34, 0), .inl (.int x1), .inl (.int (-9 : Int32)), .inl (.int ((h4.1 34 0 11) - (1 : Int32))), av0], [], h4) rfl ?_
      refine S_nrm [.inr (34, 0), .inl (.int x1), .inl (.int (-9 : Int32)), .inl (.int ((h4.1 34 0 11) - (1 : Int32))), av0] rfl ?_
      refine S_lp 56 (fun v => [.inr (34, 0), .inl (.int x1), .inl (.int v), av0, av0]) (sl_X12_soonest_23 x1 FU (-9 : Int32) ((h4.1 34 0 11) - (1 : Int32)) h4) (fun v h => ?_)
      exact sc_X12_soonest_56 x1 v h
theorem s_X11_steps (x1 : Int32) (h : AH) : Sim PP (5) k_X11_steps (0, [.inr (0, 0), .inl (.int x1)], [], h) (f_X11_steps x1 h) fI := by
  unfold f_X11_steps
  refine S_di 2 2 136 0 [.inr (0, 0), .inl (.int x1)] [.inl (.int x1), .inr (0, 0)] [.inr (0, 0), .inl (.int x1)] [.inr (0, 0), .inl (.int x1)] [] h rfl rfl pp_136 (by decide) (s_X11_isClaim x1 h) (fun y1 h2 => ?_)
  refine S_br 1 10 4 [.inr (0, 0), .inl (.int x1)] [] h2 rfl (fun _ => ?_) (fun _ => ?_)
  · exact S_ri 1 (11, [.inr (0, 0), .inl (.int x1)], [.inl (.int (-1 : Int32))], h2) rfl rfl
  · refine S_di 4 8 71 4 [.inr (0, 0), .inl (.int x1)] [.inl (.int (1 : Int32)), .inl (.int x1), .inr (19, 0)] [.inr (19, 0), .inl (.int x1), .inl (.int (1 : Int32)), av0, av0, av0] [.inr (0, 0), .inl (.int x1)] [] h2 rfl rfl pp_71 (by decide) (s_X10_leastFrom x1 (1 : Int32) h2) (fun y3 h4 => ?_)
    exact S_ri 1 (11, [.inr (0, 0), .inl (.int x1)], [.inl (.int y3)], h4) rfl rfl
theorem sb_X12_sumParts_4  (rc : Int32 → Int32 → Int32 → AH → Option (Int32 × AH)) (x1 : Int32) (x2 : Int32) (x3 : Int32) (hrc : ∀ (x2 : Int32) (x3 : Int32) (h : AH), Sim PP (1) k_X12_sumParts (4, [.inr (34, 0), .inl (.int x1), .inl (.int x2), .inl (.int x3)], [], h) (rc x1 x2 x3 h) (fE PP (1) k_X12_sumParts 37 (fun v => [av0, av0, .inl (.int v), av0])))  (h : AH) : Sim PP (1) k_X12_sumParts (4, [.inr (34, 0), .inl (.int x1), .inl (.int x2), .inl (.int x3)], [], h) (b_X12_sumParts_4 rc x1 x2 x3 h) (fE PP (1) k_X12_sumParts 37 (fun v => [av0, av0, .inl (.int v), av0])) := by
  unfold b_X12_sumParts_4
  refine S_br 4 37 8 [.inr (34, 0), .inl (.int x1), .inl (.int x2), .inl (.int x3)] [] h rfl (fun _ => ?_) (fun _ => ?_)
  · exact S_ex x2 (fun v => [av0, av0, .inl (.int v), av0]) rfl
  · refine S_grd 4 (12, [.inr (34, 0), .inl (.int x1), .inl (.int x2), .inl (.int x3)], [.inl (.int (h.1 43 0 x1.toNatClampNeg))], h) rfl (fun _ => ?_)
    refine S_di 1 13 155 0 [.inr (34, 0), .inl (.int x1), .inl (.int x2), .inl (.int x3)] [.inl (.int x3), .inl (.int (h.1 43 0 x1.toNatClampNeg))] [.inl (.int (h.1 43 0 x1.toNatClampNeg)), .inl (.int x3)] [.inr (34, 0), .inl (.int x1), .inl (.int x2), .inl (.int x3)] [] h rfl rfl pp_155 (by decide) (s_X12_has (h.1 43 0 x1.toNatClampNeg) x3 h) (fun y1 h2 => ?_)
    refine S_br 1 35 15 [.inr (34, 0), .inl (.int x1), .inl (.int x2), .inl (.int x3)] [] h2 rfl (fun _ => ?_) (fun _ => ?_)
    · refine S_blk 2 (4, [.inr (34, 0), .inl (.int x1), .inl (.int x2), .inl (.int (x3 + (1 : Int32)))], [], h2) rfl ?_
      refine S_nrm [.inr (34, 0), .inl (.int x1), .inl (.int x2), .inl (.int (x3 + (1 : Int32)))] rfl ?_
      exact hrc x2 (x3 + (1 : Int32)) h2
    · refine S_br 3 24 18 [.inr (34, 0), .inl (.int x1), .inl (.int x2), .inl (.int x3)] [] h2 rfl (fun _ => ?_) (fun _ => ?_)
      · refine S_blk 5 (4, [.inr (34, 0), .inl (.int x1), .inl (.int (-9 : Int32)), .inl (.int (x3 + (1 : Int32)))], [], h2) rfl ?_
        refine S_nrm [.inr (34, 0), .inl (.int x1), .inl (.int (-9 : Int32)), .inl (.int (x3 + (1 : Int32)))] rfl ?_
        exact hrc (-9 : Int32) (x3 + (1 : Int32)) h2
      · refine S_grd 4 (22, [.inr (34, 0), .inl (.int x1), .inl (.int x2), .inl (.int x3)], [.inl (.int (h2.1 55 0 x3.toNatClampNeg))], h2) rfl (fun _ => ?_)
        refine S_br 2 24 26 [.inr (34, 0), .inl (.int x1), .inl (.int x2), .inl (.int x3)] [] h2 rfl (fun _ => ?_) (fun _ => ?_)
        · refine S_blk 5 (4, [.inr (34, 0), .inl (.int x1), .inl (.int (-9 : Int32)), .inl (.int (x3 + (1 : Int32)))], [], h2) rfl ?_
          refine S_nrm [.inr (34, 0), .inl (.int x1), .inl (.int (-9 : Int32)), .inl (.int (x3 + (1 : Int32)))] rfl ?_
          exact hrc (-9 : Int32) (x3 + (1 : Int32)) h2
        · refine S_grd 6 (32, [.inr (34, 0), .inl (.int x1), .inl (.int x2), .inl (.int x3)], [.inl (.int (h2.1 55 0 x3.toNatClampNeg)), .inl (.int x2), .inl (.int (999 : Int32))], h2) rfl (fun _ => ?_)
          refine S_di 1 33 157 0 [.inr (34, 0), .inl (.int x1), .inl (.int x2), .inl (.int x3)] [.inl (.int (x2 + (h2.1 55 0 x3.toNatClampNeg))), .inl (.int (999 : Int32))] [.inl (.int (999 : Int32)), .inl (.int (x2 + (h2.1 55 0 x3.toNatClampNeg)))] [.inr (34, 0), .inl (.int x1), .inl (.int x2), .inl (.int x3)] [] h2 rfl rfl pp_157 (by decide) (s_X12_lesser (999 : Int32) (x2 + (h2.1 55 0 x3.toNatClampNeg)) h2) (fun y3 h4 => ?_)
          refine S_blk 3 (4, [.inr (34, 0), .inl (.int x1), .inl (.int y3), .inl (.int (x3 + (1 : Int32)))], [], h4) rfl ?_
          refine S_nrm [.inr (34, 0), .inl (.int x1), .inl (.int y3), .inl (.int (x3 + (1 : Int32)))] rfl ?_
          exact hrc y3 (x3 + (1 : Int32)) h4
theorem sl_X12_sumParts_4    (x1 : Int32) : ∀ (F : Nat) (x2 : Int32) (x3 : Int32) (h : AH), Sim PP (1) k_X12_sumParts (4, [.inr (34, 0), .inl (.int x1), .inl (.int x2), .inl (.int x3)], [], h) (l_X12_sumParts_4 F x1 x2 x3 h) (fE PP (1) k_X12_sumParts 37 (fun v => [av0, av0, .inl (.int v), av0])) := by
  intro F
  induction F with
  | zero => intro x2 x3 h; exact S_none
  | succ F ih => intro x2 x3 h; exact sb_X12_sumParts_4 (l_X12_sumParts_4 F) x1 x2 x3 ih h
theorem sc_X12_sumParts_37    (x2 : Int32)  (h : AH) : Sim PP (1) k_X12_sumParts (37, [av0, av0, .inl (.int x2), av0], [], h) (c_X12_sumParts_37  x2 h) fI := by
  unfold c_X12_sumParts_37
  exact S_ri 1 (38, [av0, av0, .inl (.int x2), av0], [.inl (.int x2)], h) rfl rfl
theorem s_X12_sumParts (x1 : Int32) (h : AH) : Sim PP (1) k_X12_sumParts (0, [.inr (34, 0), .inl (.int x1), av0, av0], [], h) (f_X12_sumParts x1 h) fI := by
  unfold f_X12_sumParts
  refine S_blk 4 (4, [.inr (34, 0), .inl (.int x1), .inl (.int (1 : Int32)), .inl (.int (0 : Int32))], [], h) rfl ?_
  refine S_nrm [.inr (34, 0), .inl (.int x1), .inl (.int (1 : Int32)), .inl (.int (0 : Int32))] rfl ?_
  refine S_lp 37 (fun v => [av0, av0, .inl (.int v), av0]) (sl_X12_sumParts_4 x1 FU (1 : Int32) (0 : Int32) h) (fun v h => ?_)
  exact sc_X12_sumParts_37 v h
theorem sb_X12_steps_8  (rc : Int32 → Int32 → AH → Option (Unit × AH)) (x1 : Int32) (x2 : Int32) (hrc : ∀ (x2 : Int32) (h : AH), Sim PP (3) k_X12_steps (8, [.inr (34, 0), .inl (.int x1), .inl (.int x2), av0, av0, av0], [], h) (rc x1 x2 h) (fE PP (3) k_X12_steps 32 (fun v => [.inr (34, 0), .inl (.int x1), av0, av0, av0, av0])))  (h : AH) : Sim PP (3) k_X12_steps (8, [.inr (34, 0), .inl (.int x1), .inl (.int x2), av0, av0, av0], [], h) (b_X12_steps_8 rc x1 x2 h) (fE PP (3) k_X12_steps 32 (fun v => [.inr (34, 0), .inl (.int x1), av0, av0, av0, av0])) := by
  unfold b_X12_steps_8
  refine S_br 4 32 12 [.inr (34, 0), .inl (.int x1), .inl (.int x2), av0, av0, av0] [] h rfl (fun _ => ?_) (fun _ => ?_)
  · exact S_ex () (fun v => [.inr (34, 0), .inl (.int x1), av0, av0, av0, av0]) rfl
  · refine S_grd 7 (19, [.inr (34, 0), .inl (.int x1), .inl (.int x2), av0, av0, av0], [.inl (.int (h.1 41 0 x2.toNatClampNeg)), .inl (.int x2), .inr (56, 0)], h) rfl (fun _ => ?_)
    refine S_br 2 21 28 [.inr (34, 0), .inl (.int x1), .inl (.int x2), av0, av0, av0] [.inl (.int x2), .inr (56, 0)] h rfl (fun _ => ?_) (fun _ => ?_)
    · refine S_di 1 22 202 2 [.inr (34, 0), .inl (.int x1), .inl (.int x2), av0, av0, av0] [.inr (34, 0), .inl (.int x2), .inr (56, 0)] [.inr (34, 0)] [.inr (34, 0), .inl (.int x1), .inl (.int x2), av0, av0, av0] [.inl (.int x2), .inr (56, 0)] h rfl rfl pp_202 (by decide) (s_X12_standNow  h) (fun y1 h2 => ?_)
      refine S_di 1 24 155 0 [.inr (34, 0), .inl (.int x1), .inl (.int x2), av0, av0, av0] [.inl (.int x2), .inl (.int y1), .inl (.int x2), .inr (56, 0)] [.inl (.int y1), .inl (.int x2)] [.inr (34, 0), .inl (.int x1), .inl (.int x2), av0, av0, av0] [.inl (.int x2), .inr (56, 0)] h2 rfl rfl pp_155 (by decide) (s_X12_has y1 x2 h2) (fun y3 h4 => ?_)
      refine S_br 1 28 26 [.inr (34, 0), .inl (.int x1), .inl (.int x2), av0, av0, av0] [.inl (.int x2), .inr (56, 0)] h4 rfl (fun _ => ?_) (fun _ => ?_)
      · refine S_grd 2 (30, [.inr (34, 0), .inl (.int x1), .inl (.int x2), av0, av0, av0], [], (hsI h4 56 0 x2.toNatClampNeg (-9 : Int32))) rfl (fun _ => ?_)
        refine S_blk 2 (8, [.inr (34, 0), .inl (.int x1), .inl (.int (x2 + (1 : Int32))), av0, av0, av0], [], (hsI h4 56 0 x2.toNatClampNeg (-9 : Int32))) rfl ?_
        refine S_nrm [.inr (34, 0), .inl (.int x1), .inl (.int (x2 + (1 : Int32))), av0, av0, av0] rfl ?_
        exact hrc (x2 + (1 : Int32)) (hsI h4 56 0 x2.toNatClampNeg (-9 : Int32))
      · refine S_grd 3 (30, [.inr (34, 0), .inl (.int x1), .inl (.int x2), av0, av0, av0], [], (hsI h4 56 0 x2.toNatClampNeg (0 : Int32))) rfl (fun _ => ?_)
        refine S_blk 2 (8, [.inr (34, 0), .inl (.int x1), .inl (.int (x2 + (1 : Int32))), av0, av0, av0], [], (hsI h4 56 0 x2.toNatClampNeg (0 : Int32))) rfl ?_
        refine S_nrm [.inr (34, 0), .inl (.int x1), .inl (.int (x2 + (1 : Int32))), av0, av0, av0] rfl ?_
        exact hrc (x2 + (1 : Int32)) (hsI h4 56 0 x2.toNatClampNeg (0 : Int32))
    · refine S_grd 2 (30, [.inr (34, 0), .inl (.int x1), .inl (.int x2), av0, av0, av0], [], (hsI h 56 0 x2.toNatClampNeg (-9 : Int32))) rfl (fun _ => ?_)
      refine S_blk 2 (8, [.inr (34, 0), .inl (.int x1), .inl (.int (x2 + (1 : Int32))), av0, av0, av0], [], (hsI h 56 0 x2.toNatClampNeg (-9 : Int32))) rfl ?_
      refine S_nrm [.inr (34, 0), .inl (.int x1), .inl (.int (x2 + (1 : Int32))), av0, av0, av0] rfl ?_
      exact hrc (x2 + (1 : Int32)) (hsI h 56 0 x2.toNatClampNeg (-9 : Int32))
theorem sl_X12_steps_8    (x1 : Int32) : ∀ (F : Nat) (x2 : Int32) (h : AH), Sim PP (3) k_X12_steps (8, [.inr (34, 0), .inl (.int x1), .inl (.int x2), av0, av0, av0], [], h) (l_X12_steps_8 F x1 x2 h) (fE PP (3) k_X12_steps 32 (fun v => [.inr (34, 0), .inl (.int x1), av0, av0, av0, av0])) := by
  intro F
  induction F with
  | zero => intro x2 h; exact S_none
  | succ F ih => intro x2 h; exact sb_X12_steps_8 (l_X12_steps_8 F) x1 x2 ih h
theorem sb_X12_steps_42  (rc : Int32 → Int32 → Int32 → AH → Option (Unit × AH)) (x1 : Int32) (x2 : Int32) (x3 : Int32) (hrc : ∀ (x3 : Int32) (h : AH), Sim PP (3) k_X12_steps (42, [.inr (34, 0), .inl (.int x1), .inl (.int x2), .inl (.int x3), av0, av0], [], h) (rc x1 x2 x3 h) (fE PP (3) k_X12_steps 86 (fun v => [.inr (34, 0), .inl (.int x1), .inl (.int x2), av0, av0, av0])))  (h : AH) : Sim PP (3) k_X12_steps (42, [.inr (34, 0), .inl (.int x1), .inl (.int x2), .inl (.int x3), av0, av0], [], h) (b_X12_steps_42 rc x1 x2 x3 h) (fE PP (3) k_X12_steps 86 (fun v => [.inr (34, 0), .inl (.int x1), .inl (.int x2), av0, av0, av0])) := by
  unfold b_X12_steps_42
  refine S_br 4 86 46 [.inr (34, 0), .inl (.int x1), .inl (.int x2), .inl (.int x3), av0, av0] [] h rfl (fun _ => ?_) (fun _ => ?_)
  · exact S_ex () (fun v => [.inr (34, 0), .inl (.int x1), .inl (.int x2), av0, av0, av0]) rfl
  · refine S_di 2 48 197 0 [.inr (34, 0), .inl (.int x1), .inl (.int x2), .inl (.int x3), av0, av0] [.inl (.int x3), .inr (34, 0)] [.inr (34, 0), .inl (.int x3)] [.inr (34, 0), .inl (.int x1), .inl (.int x2), .inl (.int x3), av0, av0] [] h rfl rfl pp_197 (by decide) (s_X12_isUsable x3 h) (fun y1 h2 => ?_)
    refine S_br 1 54 50 [.inr (34, 0), .inl (.int x1), .inl (.int x2), .inl (.int x3), av0, av0] [] h2 rfl (fun _ => ?_) (fun _ => ?_)
    · refine S_grd 8 (62, [.inr (34, 0), .inl (.int x1), .inl (.int x2), .inl (.int x3), .inl (.int (-9 : Int32)), av0], [.inl (.int (h2.1 42 0 x3.toNatClampNeg)), .inr (56, 0)], h2) rfl (fun _ => ?_)
      refine S_grd 1 (63, [.inr (34, 0), .inl (.int x1), .inl (.int x2), .inl (.int x3), .inl (.int (-9 : Int32)), av0], [.inl (.int (h2.1 56 0 (h2.1 42 0 x3.toNatClampNeg).toNatClampNeg))], h2) rfl (fun _ => ?_)
      refine S_grd 7 (70, [.inr (34, 0), .inl (.int x1), .inl (.int x2), .inl (.int x3), .inl (.int (-9 : Int32)), .inl (.int (h2.1 56 0 (h2.1 42 0 x3.toNatClampNeg).toNatClampNeg))], [.inl (.int (h2.1 42 0 x3.toNatClampNeg)), .inr (56, 0)], h2) rfl (fun _ => ?_)
      refine S_bt 3 (c := (-9 : Int32) = (-9 : Int32)) 73 75 [.inr (34, 0), .inl (.int x1), .inl (.int x2), .inl (.int x3), .inl (.int (-9 : Int32)), .inl (.int (h2.1 56 0 (h2.1 42 0 x3.toNatClampNeg).toNatClampNeg))] [.inl (.int (h2.1 42 0 x3.toNatClampNeg)), .inr (56, 0)] h2 rfl (by decide) ?_
      refine S_grd 3 (84, [.inr (34, 0), .inl (.int x1), .inl (.int x2), .inl (.int x3), .inl (.int (-9 : Int32)), .inl (.int (h2.1 56 0 (h2.1 42 0 x3.toNatClampNeg).toNatClampNeg))], [], (hsI h2 56 0 (h2.1 42 0 x3.toNatClampNeg).toNatClampNeg (h2.1 56 0 (h2.1 42 0 x3.toNatClampNeg).toNatClampNeg))) rfl (fun _ => ?_)
      refine S_blk 2 (42, [.inr (34, 0), .inl (.int x1), .inl (.int x2), .inl (.int (x3 + (1 : Int32))), .inl (.int (-9 : Int32)), .inl (.int (h2.1 56 0 (h2.1 42 0 x3.toNatClampNeg).toNatClampNeg))], [], (hsI h2 56 0 (h2.1 42 0 x3.toNatClampNeg).toNatClampNeg (h2.1 56 0 (h2.1 42 0 x3.toNatClampNeg).toNatClampNeg))) rfl ?_
      refine S_nrm [.inr (34, 0), .inl (.int x1), .inl (.int x2), .inl (.int (x3 + (1 : Int32))), av0, av0] rfl ?_
      exact hrc (x3 + (1 : Int32)) (hsI h2 56 0 (h2.1 42 0 x3.toNatClampNeg).toNatClampNeg (h2.1 56 0 (h2.1 42 0 x3.toNatClampNeg).toNatClampNeg))
    · refine S_di 2 52 235 1 [.inr (34, 0), .inl (.int x1), .inl (.int x2), .inl (.int x3), av0, av0] [.inl (.int x3), .inr (34, 0)] [.inr (34, 0), .inl (.int x3), av0, av0] [.inr (34, 0), .inl (.int x1), .inl (.int x2), .inl (.int x3), av0, av0] [] h2 rfl rfl pp_235 (by decide) (s_X12_sumParts x3 h2) (fun y3 h4 => ?_)
      refine S_grd 8 (62, [.inr (34, 0), .inl (.int x1), .inl (.int x2), .inl (.int x3), .inl (.int y3), av0], [.inl (.int (h4.1 42 0 x3.toNatClampNeg)), .inr (56, 0)], h4) rfl (fun _ => ?_)
      refine S_grd 1 (63, [.inr (34, 0), .inl (.int x1), .inl (.int x2), .inl (.int x3), .inl (.int y3), av0], [.inl (.int (h4.1 56 0 (h4.1 42 0 x3.toNatClampNeg).toNatClampNeg))], h4) rfl (fun _ => ?_)
      refine S_grd 7 (70, [.inr (34, 0), .inl (.int x1), .inl (.int x2), .inl (.int x3), .inl (.int y3), .inl (.int (h4.1 56 0 (h4.1 42 0 x3.toNatClampNeg).toNatClampNeg))], [.inl (.int (h4.1 42 0 x3.toNatClampNeg)), .inr (56, 0)], h4) rfl (fun _ => ?_)
      refine S_br 3 73 75 [.inr (34, 0), .inl (.int x1), .inl (.int x2), .inl (.int x3), .inl (.int y3), .inl (.int (h4.1 56 0 (h4.1 42 0 x3.toNatClampNeg).toNatClampNeg))] [.inl (.int (h4.1 42 0 x3.toNatClampNeg)), .inr (56, 0)] h4 rfl (fun _ => ?_) (fun _ => ?_)
      · refine S_grd 3 (84, [.inr (34, 0), .inl (.int x1), .inl (.int x2), .inl (.int x3), .inl (.int y3), .inl (.int (h4.1 56 0 (h4.1 42 0 x3.toNatClampNeg).toNatClampNeg))], [], (hsI h4 56 0 (h4.1 42 0 x3.toNatClampNeg).toNatClampNeg (h4.1 56 0 (h4.1 42 0 x3.toNatClampNeg).toNatClampNeg))) rfl (fun _ => ?_)
        refine S_blk 2 (42, [.inr (34, 0), .inl (.int x1), .inl (.int x2), .inl (.int (x3 + (1 : Int32))), .inl (.int y3), .inl (.int (h4.1 56 0 (h4.1 42 0 x3.toNatClampNeg).toNatClampNeg))], [], (hsI h4 56 0 (h4.1 42 0 x3.toNatClampNeg).toNatClampNeg (h4.1 56 0 (h4.1 42 0 x3.toNatClampNeg).toNatClampNeg))) rfl ?_
        refine S_nrm [.inr (34, 0), .inl (.int x1), .inl (.int x2), .inl (.int (x3 + (1 : Int32))), av0, av0] rfl ?_
        exact hrc (x3 + (1 : Int32)) (hsI h4 56 0 (h4.1 42 0 x3.toNatClampNeg).toNatClampNeg (h4.1 56 0 (h4.1 42 0 x3.toNatClampNeg).toNatClampNeg))
      · refine S_br 3 78 80 [.inr (34, 0), .inl (.int x1), .inl (.int x2), .inl (.int x3), .inl (.int y3), .inl (.int (h4.1 56 0 (h4.1 42 0 x3.toNatClampNeg).toNatClampNeg))] [.inl (.int (h4.1 42 0 x3.toNatClampNeg)), .inr (56, 0)] h4 rfl (fun _ => ?_) (fun _ => ?_)
        · refine S_grd 3 (84, [.inr (34, 0), .inl (.int x1), .inl (.int x2), .inl (.int x3), .inl (.int y3), .inl (.int (h4.1 56 0 (h4.1 42 0 x3.toNatClampNeg).toNatClampNeg))], [], (hsI h4 56 0 (h4.1 42 0 x3.toNatClampNeg).toNatClampNeg y3)) rfl (fun _ => ?_)
          refine S_blk 2 (42, [.inr (34, 0), .inl (.int x1), .inl (.int x2), .inl (.int (x3 + (1 : Int32))), .inl (.int y3), .inl (.int (h4.1 56 0 (h4.1 42 0 x3.toNatClampNeg).toNatClampNeg))], [], (hsI h4 56 0 (h4.1 42 0 x3.toNatClampNeg).toNatClampNeg y3)) rfl ?_
          refine S_nrm [.inr (34, 0), .inl (.int x1), .inl (.int x2), .inl (.int (x3 + (1 : Int32))), av0, av0] rfl ?_
          exact hrc (x3 + (1 : Int32)) (hsI h4 56 0 (h4.1 42 0 x3.toNatClampNeg).toNatClampNeg y3)
        · refine S_di 2 82 157 0 [.inr (34, 0), .inl (.int x1), .inl (.int x2), .inl (.int x3), .inl (.int y3), .inl (.int (h4.1 56 0 (h4.1 42 0 x3.toNatClampNeg).toNatClampNeg))] [.inl (.int y3), .inl (.int (h4.1 56 0 (h4.1 42 0 x3.toNatClampNeg).toNatClampNeg)), .inl (.int (h4.1 42 0 x3.toNatClampNeg)), .inr (56, 0)] [.inl (.int (h4.1 56 0 (h4.1 42 0 x3.toNatClampNeg).toNatClampNeg)), .inl (.int y3)] [.inr (34, 0), .inl (.int x1), .inl (.int x2), .inl (.int x3), .inl (.int y3), .inl (.int (h4.1 56 0 (h4.1 42 0 x3.toNatClampNeg).toNatClampNeg))] [.inl (.int (h4.1 42 0 x3.toNatClampNeg)), .inr (56, 0)] h4 rfl rfl pp_157 (by decide) (s_X12_lesser (h4.1 56 0 (h4.1 42 0 x3.toNatClampNeg).toNatClampNeg) y3 h4) (fun y5 h6 => ?_)
          refine S_grd 1 (84, [.inr (34, 0), .inl (.int x1), .inl (.int x2), .inl (.int x3), .inl (.int y3), .inl (.int (h4.1 56 0 (h4.1 42 0 x3.toNatClampNeg).toNatClampNeg))], [], (hsI h6 56 0 (h4.1 42 0 x3.toNatClampNeg).toNatClampNeg y5)) rfl (fun _ => ?_)
          refine S_blk 2 (42, [.inr (34, 0), .inl (.int x1), .inl (.int x2), .inl (.int (x3 + (1 : Int32))), .inl (.int y3), .inl (.int (h4.1 56 0 (h4.1 42 0 x3.toNatClampNeg).toNatClampNeg))], [], (hsI h6 56 0 (h4.1 42 0 x3.toNatClampNeg).toNatClampNeg y5)) rfl ?_
          refine S_nrm [.inr (34, 0), .inl (.int x1), .inl (.int x2), .inl (.int (x3 + (1 : Int32))), av0, av0] rfl ?_
          exact hrc (x3 + (1 : Int32)) (hsI h6 56 0 (h4.1 42 0 x3.toNatClampNeg).toNatClampNeg y5)
theorem sl_X12_steps_42    (x1 : Int32) (x2 : Int32) : ∀ (F : Nat) (x3 : Int32) (h : AH), Sim PP (3) k_X12_steps (42, [.inr (34, 0), .inl (.int x1), .inl (.int x2), .inl (.int x3), av0, av0], [], h) (l_X12_steps_42 F x1 x2 x3 h) (fE PP (3) k_X12_steps 86 (fun v => [.inr (34, 0), .inl (.int x1), .inl (.int x2), av0, av0, av0])) := by
  intro F
  induction F with
  | zero => intro x3 h; exact S_none
  | succ F ih => intro x3 h; exact sb_X12_steps_42 (l_X12_steps_42 F) x1 x2 x3 ih h
theorem sc_X12_steps_86  (rc : Int32 → Int32 → AH → Option (Unit × AH))  (x1 : Int32) (x2 : Int32) (hrc : ∀ (x2 : Int32) (h : AH), Sim PP (3) k_X12_steps (34, [.inr (34, 0), .inl (.int x1), .inl (.int x2), av0, av0, av0], [], h) (rc x1 x2 h) (fE PP (3) k_X12_steps 88 (fun v => [.inr (34, 0), .inl (.int x1), av0, av0, av0, av0]))) (h : AH) : Sim PP (3) k_X12_steps (86, [.inr (34, 0), .inl (.int x1), .inl (.int x2), av0, av0, av0], [], h) (c_X12_steps_86 rc x1 x2 h) (fE PP (3) k_X12_steps 88 (fun v => [.inr (34, 0), .inl (.int x1), av0, av0, av0, av0])) := by
  unfold c_X12_steps_86
  refine S_blk 2 (34, [.inr (34, 0), .inl (.int x1), .inl (.int (x2 + (1 : Int32))), av0, av0, av0], [], h) rfl ?_
  refine S_nrm [.inr (34, 0), .inl (.int x1), .inl (.int (x2 + (1 : Int32))), av0, av0, av0] rfl ?_
  exact hrc (x2 + (1 : Int32)) h
theorem sb_X12_steps_34  (rc : Int32 → Int32 → AH → Option (Unit × AH)) (x1 : Int32) (x2 : Int32) (hrc : ∀ (x2 : Int32) (h : AH), Sim PP (3) k_X12_steps (34, [.inr (34, 0), .inl (.int x1), .inl (.int x2), av0, av0, av0], [], h) (rc x1 x2 h) (fE PP (3) k_X12_steps 88 (fun v => [.inr (34, 0), .inl (.int x1), av0, av0, av0, av0])))  (h : AH) : Sim PP (3) k_X12_steps (34, [.inr (34, 0), .inl (.int x1), .inl (.int x2), av0, av0, av0], [], h) (b_X12_steps_34 rc x1 x2 h) (fE PP (3) k_X12_steps 88 (fun v => [.inr (34, 0), .inl (.int x1), av0, av0, av0, av0])) := by
  unfold b_X12_steps_34
  refine S_br 4 88 38 [.inr (34, 0), .inl (.int x1), .inl (.int x2), av0, av0, av0] [] h rfl (fun _ => ?_) (fun _ => ?_)
  · exact S_ex () (fun v => [.inr (34, 0), .inl (.int x1), av0, av0, av0, av0]) rfl
  · refine S_dv 1 39 231 0 [.inr (34, 0), .inl (.int x1), .inl (.int x2), av0, av0, av0] [.inr (34, 0)] [.inr (34, 0), av0] [.inr (34, 0), .inl (.int x1), .inl (.int x2), av0, av0, av0] [] h rfl rfl pp_231 (by decide) (s_X12_takeThens  h) (fun _ h2 => ?_)
    refine S_blk 2 (42, [.inr (34, 0), .inl (.int x1), .inl (.int x2), .inl (.int (0 : Int32)), av0, av0], [], h2) rfl ?_
    refine S_nrm [.inr (34, 0), .inl (.int x1), .inl (.int x2), .inl (.int (0 : Int32)), av0, av0] rfl ?_
    refine S_lp 86 (fun v => [.inr (34, 0), .inl (.int x1), .inl (.int x2), av0, av0, av0]) (sl_X12_steps_42 x1 x2 FU (0 : Int32) h2) (fun v h => ?_)
    exact sc_X12_steps_86 rc x1 x2 hrc h
theorem sl_X12_steps_34    (x1 : Int32) : ∀ (F : Nat) (x2 : Int32) (h : AH), Sim PP (3) k_X12_steps (34, [.inr (34, 0), .inl (.int x1), .inl (.int x2), av0, av0, av0], [], h) (l_X12_steps_34 F x1 x2 h) (fE PP (3) k_X12_steps 88 (fun v => [.inr (34, 0), .inl (.int x1), av0, av0, av0, av0])) := by
  intro F
  induction F with
  | zero => intro x2 h; exact S_none
  | succ F ih => intro x2 h; exact sb_X12_steps_34 (l_X12_steps_34 F) x1 x2 ih h
theorem sc_X12_steps_88    (x1 : Int32)  (h : AH) : Sim PP (3) k_X12_steps (88, [.inr (34, 0), .inl (.int x1), av0, av0, av0, av0], [], h) (c_X12_steps_88  x1 h) fI := by
  unfold c_X12_steps_88
  refine S_grd 4 (92, [.inr (34, 0), .inl (.int x1), av0, av0, av0, av0], [.inl (.int (h.1 56 0 x1.toNatClampNeg))], h) rfl (fun _ => ?_)
  exact S_ri 0 (92, [.inr (34, 0), .inl (.int x1), av0, av0, av0, av0], [.inl (.int (h.1 56 0 x1.toNatClampNeg))], h) rfl rfl
theorem sc_X12_steps_32    (x1 : Int32)  (h : AH) : Sim PP (3) k_X12_steps (32, [.inr (34, 0), .inl (.int x1), av0, av0, av0, av0], [], h) (c_X12_steps_32  x1 h) fI := by
  unfold c_X12_steps_32
  refine S_blk 2 (34, [.inr (34, 0), .inl (.int x1), .inl (.int (0 : Int32)), av0, av0, av0], [], h) rfl ?_
  refine S_nrm [.inr (34, 0), .inl (.int x1), .inl (.int (0 : Int32)), av0, av0, av0] rfl ?_
  refine S_lp 88 (fun v => [.inr (34, 0), .inl (.int x1), av0, av0, av0, av0]) (sl_X12_steps_34 x1 FU (0 : Int32) h) (fun v h => ?_)
  exact sc_X12_steps_88 x1 h
theorem s_X12_steps (x1 : Int32) (h : AH) : Sim PP (3) k_X12_steps (0, [.inr (34, 0), .inl (.int x1), av0, av0, av0, av0], [], h) (f_X12_steps x1 h) fI := by
  unfold f_X12_steps
  refine S_di 2 2 189 1 [.inr (34, 0), .inl (.int x1), av0, av0, av0, av0] [.inl (.int x1), .inr (34, 0)] [.inr (34, 0), .inl (.int x1)] [.inr (34, 0), .inl (.int x1), av0, av0, av0, av0] [] h rfl rfl pp_189 (by decide) (s_X12_isClaim x1 h) (fun y1 h2 => ?_)
  refine S_br 1 4 6 [.inr (34, 0), .inl (.int x1), av0, av0, av0, av0] [] h2 rfl (fun _ => ?_) (fun _ => ?_)
  · exact S_ri 1 (5, [.inr (34, 0), .inl (.int x1), av0, av0, av0, av0], [.inl (.int (-1 : Int32))], h2) rfl rfl
  · refine S_blk 2 (8, [.inr (34, 0), .inl (.int x1), .inl (.int (0 : Int32)), av0, av0, av0], [], h2) rfl ?_
    refine S_nrm [.inr (34, 0), .inl (.int x1), .inl (.int (0 : Int32)), av0, av0, av0] rfl ?_
    refine S_lp 32 (fun v => [.inr (34, 0), .inl (.int x1), av0, av0, av0, av0]) (sl_X12_steps_8 x1 FU (0 : Int32) h2) (fun v h => ?_)
    exact sc_X12_steps_32 x1 h
theorem s_X11_sure (x1 : Int32) (h : AH) : Sim PP (5) k_X11_sure (0, [.inr (0, 0), .inl (.int x1), av0], [], h) (f_X11_sure x1 h) fI := by
  unfold f_X11_sure
  refine S_di 2 2 136 0 [.inr (0, 0), .inl (.int x1), av0] [.inl (.int x1), .inr (0, 0)] [.inr (0, 0), .inl (.int x1)] [.inr (0, 0), .inl (.int x1), av0] [] h rfl rfl pp_136 (by decide) (s_X11_isClaim x1 h) (fun y1 h2 => ?_)
  refine S_br 1 4 6 [.inr (0, 0), .inl (.int x1), av0] [] h2 rfl (fun _ => ?_) (fun _ => ?_)
  · exact S_ri 1 (5, [.inr (0, 0), .inl (.int x1), av0], [.inl (.int (-1 : Int32))], h2) rfl rfl
  · refine S_di 4 10 71 4 [.inr (0, 0), .inl (.int x1), av0] [.inl (.int (2 : Int32)), .inl (.int x1), .inr (19, 0)] [.inr (19, 0), .inl (.int x1), .inl (.int (2 : Int32)), av0, av0, av0] [.inr (0, 0), .inl (.int x1), av0] [] h2 rfl rfl pp_71 (by decide) (s_X10_leastFrom x1 (2 : Int32) h2) (fun y3 h4 => ?_)
    refine S_br 4 15 17 [.inr (0, 0), .inl (.int x1), .inl (.int y3)] [] h4 rfl (fun _ => ?_) (fun _ => ?_)
    · exact S_ri 2 (20, [.inr (0, 0), .inl (.int x1), .inl (.int y3)], [.inl (.int (-9 : Int32))], h4) rfl rfl
    · exact S_ri 3 (20, [.inr (0, 0), .inl (.int x1), .inl (.int y3)], [.inl (.int ((9 : Int32) - y3))], h4) rfl rfl
theorem sb_X12_leastSure_7  (rc : Int32 → Int32 → Int32 → AH → Option (Int32 × AH)) (x1 : Int32) (x2 : Int32) (x3 : Int32) (hrc : ∀ (x2 : Int32) (x3 : Int32) (h : AH), Sim PP (1) k_X12_leastSure (7, [.inr (34, 0), .inl (.int x1), .inl (.int x2), .inl (.int x3)], [], h) (rc x1 x2 x3 h) (fE PP (1) k_X12_leastSure 38 (fun v => [av0, av0, .inl (.int v), av0])))  (h : AH) : Sim PP (1) k_X12_leastSure (7, [.inr (34, 0), .inl (.int x1), .inl (.int x2), .inl (.int x3)], [], h) (b_X12_leastSure_7 rc x1 x2 x3 h) (fE PP (1) k_X12_leastSure 38 (fun v => [av0, av0, .inl (.int v), av0])) := by
  unfold b_X12_leastSure_7
  refine S_br 4 38 11 [.inr (34, 0), .inl (.int x1), .inl (.int x2), .inl (.int x3)] [] h rfl (fun _ => ?_) (fun _ => ?_)
  · exact S_ex x2 (fun v => [av0, av0, .inl (.int v), av0]) rfl
  · refine S_grd 4 (15, [.inr (34, 0), .inl (.int x1), .inl (.int x2), .inl (.int x3)], [.inl (.int (h.1 43 0 x1.toNatClampNeg))], h) rfl (fun _ => ?_)
    refine S_di 1 16 155 0 [.inr (34, 0), .inl (.int x1), .inl (.int x2), .inl (.int x3)] [.inl (.int x3), .inl (.int (h.1 43 0 x1.toNatClampNeg))] [.inl (.int (h.1 43 0 x1.toNatClampNeg)), .inl (.int x3)] [.inr (34, 0), .inl (.int x1), .inl (.int x2), .inl (.int x3)] [] h rfl rfl pp_155 (by decide) (s_X12_has (h.1 43 0 x1.toNatClampNeg) x3 h) (fun y1 h2 => ?_)
    refine S_br 1 36 18 [.inr (34, 0), .inl (.int x1), .inl (.int x2), .inl (.int x3)] [] h2 rfl (fun _ => ?_) (fun _ => ?_)
    · refine S_blk 2 (7, [.inr (34, 0), .inl (.int x1), .inl (.int x2), .inl (.int (x3 + (1 : Int32)))], [], h2) rfl ?_
      refine S_nrm [.inr (34, 0), .inl (.int x1), .inl (.int x2), .inl (.int (x3 + (1 : Int32)))] rfl ?_
      exact hrc x2 (x3 + (1 : Int32)) h2
    · refine S_br 3 27 21 [.inr (34, 0), .inl (.int x1), .inl (.int x2), .inl (.int x3)] [] h2 rfl (fun _ => ?_) (fun _ => ?_)
      · refine S_blk 5 (7, [.inr (34, 0), .inl (.int x1), .inl (.int (-9 : Int32)), .inl (.int (x3 + (1 : Int32)))], [], h2) rfl ?_
        refine S_nrm [.inr (34, 0), .inl (.int x1), .inl (.int (-9 : Int32)), .inl (.int (x3 + (1 : Int32)))] rfl ?_
        exact hrc (-9 : Int32) (x3 + (1 : Int32)) h2
      · refine S_grd 4 (25, [.inr (34, 0), .inl (.int x1), .inl (.int x2), .inl (.int x3)], [.inl (.int (h2.1 55 0 x3.toNatClampNeg))], h2) rfl (fun _ => ?_)
        refine S_br 2 27 29 [.inr (34, 0), .inl (.int x1), .inl (.int x2), .inl (.int x3)] [] h2 rfl (fun _ => ?_) (fun _ => ?_)
        · refine S_blk 5 (7, [.inr (34, 0), .inl (.int x1), .inl (.int (-9 : Int32)), .inl (.int (x3 + (1 : Int32)))], [], h2) rfl ?_
          refine S_nrm [.inr (34, 0), .inl (.int x1), .inl (.int (-9 : Int32)), .inl (.int (x3 + (1 : Int32)))] rfl ?_
          exact hrc (-9 : Int32) (x3 + (1 : Int32)) h2
        · refine S_grd 5 (34, [.inr (34, 0), .inl (.int x1), .inl (.int x2), .inl (.int x3)], [.inl (.int (h2.1 55 0 x3.toNatClampNeg)), .inl (.int x2)], h2) rfl (fun _ => ?_)
          refine S_di 0 34 157 0 [.inr (34, 0), .inl (.int x1), .inl (.int x2), .inl (.int x3)] [.inl (.int (h2.1 55 0 x3.toNatClampNeg)), .inl (.int x2)] [.inl (.int x2), .inl (.int (h2.1 55 0 x3.toNatClampNeg))] [.inr (34, 0), .inl (.int x1), .inl (.int x2), .inl (.int x3)] [] h2 rfl rfl pp_157 (by decide) (s_X12_lesser x2 (h2.1 55 0 x3.toNatClampNeg) h2) (fun y3 h4 => ?_)
          refine S_blk 3 (7, [.inr (34, 0), .inl (.int x1), .inl (.int y3), .inl (.int (x3 + (1 : Int32)))], [], h4) rfl ?_
          refine S_nrm [.inr (34, 0), .inl (.int x1), .inl (.int y3), .inl (.int (x3 + (1 : Int32)))] rfl ?_
          exact hrc y3 (x3 + (1 : Int32)) h4
theorem sl_X12_leastSure_7    (x1 : Int32) : ∀ (F : Nat) (x2 : Int32) (x3 : Int32) (h : AH), Sim PP (1) k_X12_leastSure (7, [.inr (34, 0), .inl (.int x1), .inl (.int x2), .inl (.int x3)], [], h) (l_X12_leastSure_7 F x1 x2 x3 h) (fE PP (1) k_X12_leastSure 38 (fun v => [av0, av0, .inl (.int v), av0])) := by
  intro F
  induction F with
  | zero => intro x2 x3 h; exact S_none
  | succ F ih => intro x2 x3 h; exact sb_X12_leastSure_7 (l_X12_leastSure_7 F) x1 x2 x3 ih h
theorem sc_X12_leastSure_38    (x2 : Int32)  (h : AH) : Sim PP (1) k_X12_leastSure (38, [av0, av0, .inl (.int x2), av0], [], h) (c_X12_leastSure_38  x2 h) fI := by
  unfold c_X12_leastSure_38
  exact S_ri 1 (39, [av0, av0, .inl (.int x2), av0], [.inl (.int x2)], h) rfl rfl
theorem s_X12_leastSure (x1 : Int32) (h : AH) : Sim PP (1) k_X12_leastSure (0, [.inr (34, 0), .inl (.int x1), av0, av0], [], h) (f_X12_leastSure x1 h) fI := by
  unfold f_X12_leastSure
  refine S_grd 4 (4, [.inr (34, 0), .inl (.int x1), av0, av0], [.inl (.int (h.1 44 0 x1.toNatClampNeg))], h) rfl (fun _ => ?_)
  refine S_blk 3 (7, [.inr (34, 0), .inl (.int x1), .inl (.int (h.1 44 0 x1.toNatClampNeg)), .inl (.int (0 : Int32))], [], h) rfl ?_
  refine S_nrm [.inr (34, 0), .inl (.int x1), .inl (.int (h.1 44 0 x1.toNatClampNeg)), .inl (.int (0 : Int32))] rfl ?_
  refine S_lp 38 (fun v => [av0, av0, .inl (.int v), av0]) (sl_X12_leastSure_7 x1 FU (h.1 44 0 x1.toNatClampNeg) (0 : Int32) h) (fun v h => ?_)
  exact sc_X12_leastSure_38 v h
theorem sb_X12_sure_8  (rc : Int32 → Int32 → AH → Option (Unit × AH)) (x1 : Int32) (x2 : Int32) (hrc : ∀ (x2 : Int32) (h : AH), Sim PP (3) k_X12_sure (8, [.inr (34, 0), .inl (.int x1), .inl (.int x2), av0, av0], [], h) (rc x1 x2 h) (fE PP (3) k_X12_sure 32 (fun v => [.inr (34, 0), .inl (.int x1), av0, av0, av0])))  (h : AH) : Sim PP (3) k_X12_sure (8, [.inr (34, 0), .inl (.int x1), .inl (.int x2), av0, av0], [], h) (b_X12_sure_8 rc x1 x2 h) (fE PP (3) k_X12_sure 32 (fun v => [.inr (34, 0), .inl (.int x1), av0, av0, av0])) := by
  unfold b_X12_sure_8
  refine S_br 4 32 12 [.inr (34, 0), .inl (.int x1), .inl (.int x2), av0, av0] [] h rfl (fun _ => ?_) (fun _ => ?_)
  · exact S_ex () (fun v => [.inr (34, 0), .inl (.int x1), av0, av0, av0]) rfl
  · refine S_grd 7 (19, [.inr (34, 0), .inl (.int x1), .inl (.int x2), av0, av0], [.inl (.int (h.1 41 0 x2.toNatClampNeg)), .inl (.int x2), .inr (56, 0)], h) rfl (fun _ => ?_)
    refine S_br 2 21 28 [.inr (34, 0), .inl (.int x1), .inl (.int x2), av0, av0] [.inl (.int x2), .inr (56, 0)] h rfl (fun _ => ?_) (fun _ => ?_)
    · refine S_di 1 22 202 2 [.inr (34, 0), .inl (.int x1), .inl (.int x2), av0, av0] [.inr (34, 0), .inl (.int x2), .inr (56, 0)] [.inr (34, 0)] [.inr (34, 0), .inl (.int x1), .inl (.int x2), av0, av0] [.inl (.int x2), .inr (56, 0)] h rfl rfl pp_202 (by decide) (s_X12_standNow  h) (fun y1 h2 => ?_)
      refine S_di 1 24 155 0 [.inr (34, 0), .inl (.int x1), .inl (.int x2), av0, av0] [.inl (.int x2), .inl (.int y1), .inl (.int x2), .inr (56, 0)] [.inl (.int y1), .inl (.int x2)] [.inr (34, 0), .inl (.int x1), .inl (.int x2), av0, av0] [.inl (.int x2), .inr (56, 0)] h2 rfl rfl pp_155 (by decide) (s_X12_has y1 x2 h2) (fun y3 h4 => ?_)
      refine S_br 1 28 26 [.inr (34, 0), .inl (.int x1), .inl (.int x2), av0, av0] [.inl (.int x2), .inr (56, 0)] h4 rfl (fun _ => ?_) (fun _ => ?_)
      · refine S_grd 2 (30, [.inr (34, 0), .inl (.int x1), .inl (.int x2), av0, av0], [], (hsI h4 56 0 x2.toNatClampNeg (-9 : Int32))) rfl (fun _ => ?_)
        refine S_blk 2 (8, [.inr (34, 0), .inl (.int x1), .inl (.int (x2 + (1 : Int32))), av0, av0], [], (hsI h4 56 0 x2.toNatClampNeg (-9 : Int32))) rfl ?_
        refine S_nrm [.inr (34, 0), .inl (.int x1), .inl (.int (x2 + (1 : Int32))), av0, av0] rfl ?_
        exact hrc (x2 + (1 : Int32)) (hsI h4 56 0 x2.toNatClampNeg (-9 : Int32))
      · refine S_grd 3 (30, [.inr (34, 0), .inl (.int x1), .inl (.int x2), av0, av0], [], (hsI h4 56 0 x2.toNatClampNeg (9 : Int32))) rfl (fun _ => ?_)
        refine S_blk 2 (8, [.inr (34, 0), .inl (.int x1), .inl (.int (x2 + (1 : Int32))), av0, av0], [], (hsI h4 56 0 x2.toNatClampNeg (9 : Int32))) rfl ?_
        refine S_nrm [.inr (34, 0), .inl (.int x1), .inl (.int (x2 + (1 : Int32))), av0, av0] rfl ?_
        exact hrc (x2 + (1 : Int32)) (hsI h4 56 0 x2.toNatClampNeg (9 : Int32))
    · refine S_grd 2 (30, [.inr (34, 0), .inl (.int x1), .inl (.int x2), av0, av0], [], (hsI h 56 0 x2.toNatClampNeg (-9 : Int32))) rfl (fun _ => ?_)
      refine S_blk 2 (8, [.inr (34, 0), .inl (.int x1), .inl (.int (x2 + (1 : Int32))), av0, av0], [], (hsI h 56 0 x2.toNatClampNeg (-9 : Int32))) rfl ?_
      refine S_nrm [.inr (34, 0), .inl (.int x1), .inl (.int (x2 + (1 : Int32))), av0, av0] rfl ?_
      exact hrc (x2 + (1 : Int32)) (hsI h 56 0 x2.toNatClampNeg (-9 : Int32))
theorem sl_X12_sure_8    (x1 : Int32) : ∀ (F : Nat) (x2 : Int32) (h : AH), Sim PP (3) k_X12_sure (8, [.inr (34, 0), .inl (.int x1), .inl (.int x2), av0, av0], [], h) (l_X12_sure_8 F x1 x2 h) (fE PP (3) k_X12_sure 32 (fun v => [.inr (34, 0), .inl (.int x1), av0, av0, av0])) := by
  intro F
  induction F with
  | zero => intro x2 h; exact S_none
  | succ F ih => intro x2 h; exact sb_X12_sure_8 (l_X12_sure_8 F) x1 x2 ih h
theorem sb_X12_sure_42  (rc : Int32 → Int32 → Int32 → AH → Option (Unit × AH)) (x1 : Int32) (x2 : Int32) (x3 : Int32) (hrc : ∀ (x3 : Int32) (h : AH), Sim PP (3) k_X12_sure (42, [.inr (34, 0), .inl (.int x1), .inl (.int x2), .inl (.int x3), av0], [], h) (rc x1 x2 x3 h) (fE PP (3) k_X12_sure 74 (fun v => [.inr (34, 0), .inl (.int x1), .inl (.int x2), av0, av0])))  (h : AH) : Sim PP (3) k_X12_sure (42, [.inr (34, 0), .inl (.int x1), .inl (.int x2), .inl (.int x3), av0], [], h) (b_X12_sure_42 rc x1 x2 x3 h) (fE PP (3) k_X12_sure 74 (fun v => [.inr (34, 0), .inl (.int x1), .inl (.int x2), av0, av0])) := by
  unfold b_X12_sure_42
  refine S_br 4 74 46 [.inr (34, 0), .inl (.int x1), .inl (.int x2), .inl (.int x3), av0] [] h rfl (fun _ => ?_) (fun _ => ?_)
  · exact S_ex () (fun v => [.inr (34, 0), .inl (.int x1), .inl (.int x2), av0, av0]) rfl
  · refine S_di 2 48 197 0 [.inr (34, 0), .inl (.int x1), .inl (.int x2), .inl (.int x3), av0] [.inl (.int x3), .inr (34, 0)] [.inr (34, 0), .inl (.int x3)] [.inr (34, 0), .inl (.int x1), .inl (.int x2), .inl (.int x3), av0] [] h rfl rfl pp_197 (by decide) (s_X12_isUsable x3 h) (fun y1 h2 => ?_)
    refine S_br 1 54 50 [.inr (34, 0), .inl (.int x1), .inl (.int x2), .inl (.int x3), av0] [] h2 rfl (fun _ => ?_) (fun _ => ?_)
    · refine S_grd 8 (62, [.inr (34, 0), .inl (.int x1), .inl (.int x2), .inl (.int x3), .inl (.int (-9 : Int32))], [.inl (.int (h2.1 42 0 x3.toNatClampNeg)), .inr (56, 0)], h2) rfl (fun _ => ?_)
      refine S_grd 6 (68, [.inr (34, 0), .inl (.int x1), .inl (.int x2), .inl (.int x3), .inl (.int (-9 : Int32))], [.inl (.int (h2.1 42 0 x3.toNatClampNeg)), .inr (56, 0), .inl (.int (h2.1 42 0 x3.toNatClampNeg)), .inr (56, 0)], h2) rfl (fun _ => ?_)
      refine S_grd 1 (69, [.inr (34, 0), .inl (.int x1), .inl (.int x2), .inl (.int x3), .inl (.int (-9 : Int32))], [.inl (.int (h2.1 56 0 (h2.1 42 0 x3.toNatClampNeg).toNatClampNeg)), .inl (.int (h2.1 42 0 x3.toNatClampNeg)), .inr (56, 0)], h2) rfl (fun _ => ?_)
      refine S_di 1 70 158 0 [.inr (34, 0), .inl (.int x1), .inl (.int x2), .inl (.int x3), .inl (.int (-9 : Int32))] [.inl (.int (-9 : Int32)), .inl (.int (h2.1 56 0 (h2.1 42 0 x3.toNatClampNeg).toNatClampNeg)), .inl (.int (h2.1 42 0 x3.toNatClampNeg)), .inr (56, 0)] [.inl (.int (h2.1 56 0 (h2.1 42 0 x3.toNatClampNeg).toNatClampNeg)), .inl (.int (-9 : Int32))] [.inr (34, 0), .inl (.int x1), .inl (.int x2), .inl (.int x3), .inl (.int (-9 : Int32))] [.inl (.int (h2.1 42 0 x3.toNatClampNeg)), .inr (56, 0)] h2 rfl rfl pp_158 (by decide) (s_X12_greater (h2.1 56 0 (h2.1 42 0 x3.toNatClampNeg).toNatClampNeg) (-9 : Int32) h2) (fun y3 h4 => ?_)
      refine S_grd 1 (72, [.inr (34, 0), .inl (.int x1), .inl (.int x2), .inl (.int x3), .inl (.int (-9 : Int32))], [], (hsI h4 56 0 (h2.1 42 0 x3.toNatClampNeg).toNatClampNeg y3)) rfl (fun _ => ?_)
      refine S_blk 2 (42, [.inr (34, 0), .inl (.int x1), .inl (.int x2), .inl (.int (x3 + (1 : Int32))), .inl (.int (-9 : Int32))], [], (hsI h4 56 0 (h2.1 42 0 x3.toNatClampNeg).toNatClampNeg y3)) rfl ?_
      refine S_nrm [.inr (34, 0), .inl (.int x1), .inl (.int x2), .inl (.int (x3 + (1 : Int32))), av0] rfl ?_
      exact hrc (x3 + (1 : Int32)) (hsI h4 56 0 (h2.1 42 0 x3.toNatClampNeg).toNatClampNeg y3)
    · refine S_di 2 52 237 1 [.inr (34, 0), .inl (.int x1), .inl (.int x2), .inl (.int x3), av0] [.inl (.int x3), .inr (34, 0)] [.inr (34, 0), .inl (.int x3), av0, av0] [.inr (34, 0), .inl (.int x1), .inl (.int x2), .inl (.int x3), av0] [] h2 rfl rfl pp_237 (by decide) (s_X12_leastSure x3 h2) (fun y5 h6 => ?_)
      refine S_grd 8 (62, [.inr (34, 0), .inl (.int x1), .inl (.int x2), .inl (.int x3), .inl (.int y5)], [.inl (.int (h6.1 42 0 x3.toNatClampNeg)), .inr (56, 0)], h6) rfl (fun _ => ?_)
      refine S_grd 6 (68, [.inr (34, 0), .inl (.int x1), .inl (.int x2), .inl (.int x3), .inl (.int y5)], [.inl (.int (h6.1 42 0 x3.toNatClampNeg)), .inr (56, 0), .inl (.int (h6.1 42 0 x3.toNatClampNeg)), .inr (56, 0)], h6) rfl (fun _ => ?_)
      refine S_grd 1 (69, [.inr (34, 0), .inl (.int x1), .inl (.int x2), .inl (.int x3), .inl (.int y5)], [.inl (.int (h6.1 56 0 (h6.1 42 0 x3.toNatClampNeg).toNatClampNeg)), .inl (.int (h6.1 42 0 x3.toNatClampNeg)), .inr (56, 0)], h6) rfl (fun _ => ?_)
      refine S_di 1 70 158 0 [.inr (34, 0), .inl (.int x1), .inl (.int x2), .inl (.int x3), .inl (.int y5)] [.inl (.int y5), .inl (.int (h6.1 56 0 (h6.1 42 0 x3.toNatClampNeg).toNatClampNeg)), .inl (.int (h6.1 42 0 x3.toNatClampNeg)), .inr (56, 0)] [.inl (.int (h6.1 56 0 (h6.1 42 0 x3.toNatClampNeg).toNatClampNeg)), .inl (.int y5)] [.inr (34, 0), .inl (.int x1), .inl (.int x2), .inl (.int x3), .inl (.int y5)] [.inl (.int (h6.1 42 0 x3.toNatClampNeg)), .inr (56, 0)] h6 rfl rfl pp_158 (by decide) (s_X12_greater (h6.1 56 0 (h6.1 42 0 x3.toNatClampNeg).toNatClampNeg) y5 h6) (fun y7 h8 => ?_)
      refine S_grd 1 (72, [.inr (34, 0), .inl (.int x1), .inl (.int x2), .inl (.int x3), .inl (.int y5)], [], (hsI h8 56 0 (h6.1 42 0 x3.toNatClampNeg).toNatClampNeg y7)) rfl (fun _ => ?_)
      refine S_blk 2 (42, [.inr (34, 0), .inl (.int x1), .inl (.int x2), .inl (.int (x3 + (1 : Int32))), .inl (.int y5)], [], (hsI h8 56 0 (h6.1 42 0 x3.toNatClampNeg).toNatClampNeg y7)) rfl ?_
      refine S_nrm [.inr (34, 0), .inl (.int x1), .inl (.int x2), .inl (.int (x3 + (1 : Int32))), av0] rfl ?_
      exact hrc (x3 + (1 : Int32)) (hsI h8 56 0 (h6.1 42 0 x3.toNatClampNeg).toNatClampNeg y7)
theorem sl_X12_sure_42    (x1 : Int32) (x2 : Int32) : ∀ (F : Nat) (x3 : Int32) (h : AH), Sim PP (3) k_X12_sure (42, [.inr (34, 0), .inl (.int x1), .inl (.int x2), .inl (.int x3), av0], [], h) (l_X12_sure_42 F x1 x2 x3 h) (fE PP (3) k_X12_sure 74 (fun v => [.inr (34, 0), .inl (.int x1), .inl (.int x2), av0, av0])) := by
  intro F
  induction F with
  | zero => intro x3 h; exact S_none
  | succ F ih => intro x3 h; exact sb_X12_sure_42 (l_X12_sure_42 F) x1 x2 x3 ih h
theorem sc_X12_sure_74  (rc : Int32 → Int32 → AH → Option (Unit × AH))  (x1 : Int32) (x2 : Int32) (hrc : ∀ (x2 : Int32) (h : AH), Sim PP (3) k_X12_sure (34, [.inr (34, 0), .inl (.int x1), .inl (.int x2), av0, av0], [], h) (rc x1 x2 h) (fE PP (3) k_X12_sure 76 (fun v => [.inr (34, 0), .inl (.int x1), av0, av0, av0]))) (h : AH) : Sim PP (3) k_X12_sure (74, [.inr (34, 0), .inl (.int x1), .inl (.int x2), av0, av0], [], h) (c_X12_sure_74 rc x1 x2 h) (fE PP (3) k_X12_sure 76 (fun v => [.inr (34, 0), .inl (.int x1), av0, av0, av0])) := by
  unfold c_X12_sure_74
  refine S_blk 2 (34, [.inr (34, 0), .inl (.int x1), .inl (.int (x2 + (1 : Int32))), av0, av0], [], h) rfl ?_
  refine S_nrm [.inr (34, 0), .inl (.int x1), .inl (.int (x2 + (1 : Int32))), av0, av0] rfl ?_
  exact hrc (x2 + (1 : Int32)) h
theorem sb_X12_sure_34  (rc : Int32 → Int32 → AH → Option (Unit × AH)) (x1 : Int32) (x2 : Int32) (hrc : ∀ (x2 : Int32) (h : AH), Sim PP (3) k_X12_sure (34, [.inr (34, 0), .inl (.int x1), .inl (.int x2), av0, av0], [], h) (rc x1 x2 h) (fE PP (3) k_X12_sure 76 (fun v => [.inr (34, 0), .inl (.int x1), av0, av0, av0])))  (h : AH) : Sim PP (3) k_X12_sure (34, [.inr (34, 0), .inl (.int x1), .inl (.int x2), av0, av0], [], h) (b_X12_sure_34 rc x1 x2 h) (fE PP (3) k_X12_sure 76 (fun v => [.inr (34, 0), .inl (.int x1), av0, av0, av0])) := by
  unfold b_X12_sure_34
  refine S_br 4 76 38 [.inr (34, 0), .inl (.int x1), .inl (.int x2), av0, av0] [] h rfl (fun _ => ?_) (fun _ => ?_)
  · exact S_ex () (fun v => [.inr (34, 0), .inl (.int x1), av0, av0, av0]) rfl
  · refine S_dv 1 39 231 0 [.inr (34, 0), .inl (.int x1), .inl (.int x2), av0, av0] [.inr (34, 0)] [.inr (34, 0), av0] [.inr (34, 0), .inl (.int x1), .inl (.int x2), av0, av0] [] h rfl rfl pp_231 (by decide) (s_X12_takeThens  h) (fun _ h2 => ?_)
    refine S_blk 2 (42, [.inr (34, 0), .inl (.int x1), .inl (.int x2), .inl (.int (0 : Int32)), av0], [], h2) rfl ?_
    refine S_nrm [.inr (34, 0), .inl (.int x1), .inl (.int x2), .inl (.int (0 : Int32)), av0] rfl ?_
    refine S_lp 74 (fun v => [.inr (34, 0), .inl (.int x1), .inl (.int x2), av0, av0]) (sl_X12_sure_42 x1 x2 FU (0 : Int32) h2) (fun v h => ?_)
    exact sc_X12_sure_74 rc x1 x2 hrc h
theorem sl_X12_sure_34    (x1 : Int32) : ∀ (F : Nat) (x2 : Int32) (h : AH), Sim PP (3) k_X12_sure (34, [.inr (34, 0), .inl (.int x1), .inl (.int x2), av0, av0], [], h) (l_X12_sure_34 F x1 x2 h) (fE PP (3) k_X12_sure 76 (fun v => [.inr (34, 0), .inl (.int x1), av0, av0, av0])) := by
  intro F
  induction F with
  | zero => intro x2 h; exact S_none
  | succ F ih => intro x2 h; exact sb_X12_sure_34 (l_X12_sure_34 F) x1 x2 ih h
theorem sc_X12_sure_76    (x1 : Int32)  (h : AH) : Sim PP (3) k_X12_sure (76, [.inr (34, 0), .inl (.int x1), av0, av0, av0], [], h) (c_X12_sure_76  x1 h) fI := by
  unfold c_X12_sure_76
  refine S_grd 4 (80, [.inr (34, 0), .inl (.int x1), av0, av0, av0], [.inl (.int (h.1 56 0 x1.toNatClampNeg))], h) rfl (fun _ => ?_)
  exact S_ri 0 (80, [.inr (34, 0), .inl (.int x1), av0, av0, av0], [.inl (.int (h.1 56 0 x1.toNatClampNeg))], h) rfl rfl
theorem sc_X12_sure_32    (x1 : Int32)  (h : AH) : Sim PP (3) k_X12_sure (32, [.inr (34, 0), .inl (.int x1), av0, av0, av0], [], h) (c_X12_sure_32  x1 h) fI := by
  unfold c_X12_sure_32
  refine S_blk 2 (34, [.inr (34, 0), .inl (.int x1), .inl (.int (0 : Int32)), av0, av0], [], h) rfl ?_
  refine S_nrm [.inr (34, 0), .inl (.int x1), .inl (.int (0 : Int32)), av0, av0] rfl ?_
  refine S_lp 76 (fun v => [.inr (34, 0), .inl (.int x1), av0, av0, av0]) (sl_X12_sure_34 x1 FU (0 : Int32) h) (fun v h => ?_)
  exact sc_X12_sure_76 x1 h
theorem s_X12_sure (x1 : Int32) (h : AH) : Sim PP (3) k_X12_sure (0, [.inr (34, 0), .inl (.int x1), av0, av0, av0], [], h) (f_X12_sure x1 h) fI := by
  unfold f_X12_sure
  refine S_di 2 2 189 1 [.inr (34, 0), .inl (.int x1), av0, av0, av0] [.inl (.int x1), .inr (34, 0)] [.inr (34, 0), .inl (.int x1)] [.inr (34, 0), .inl (.int x1), av0, av0, av0] [] h rfl rfl pp_189 (by decide) (s_X12_isClaim x1 h) (fun y1 h2 => ?_)
  refine S_br 1 4 6 [.inr (34, 0), .inl (.int x1), av0, av0, av0] [] h2 rfl (fun _ => ?_) (fun _ => ?_)
  · exact S_ri 1 (5, [.inr (34, 0), .inl (.int x1), av0, av0, av0], [.inl (.int (-1 : Int32))], h2) rfl rfl
  · refine S_blk 2 (8, [.inr (34, 0), .inl (.int x1), .inl (.int (0 : Int32)), av0, av0], [], h2) rfl ?_
    refine S_nrm [.inr (34, 0), .inl (.int x1), .inl (.int (0 : Int32)), av0, av0] rfl ?_
    refine S_lp 32 (fun v => [.inr (34, 0), .inl (.int x1), av0, av0, av0]) (sl_X12_sure_8 x1 FU (0 : Int32) h2) (fun v h => ?_)
    exact sc_X12_sure_32 x1 h
theorem sb_X0_nextOf_4  (rc : Int32 → Int32 → Int32 → AH → Option (Int32 × AH)) (x1 : Int32) (x2 : Int32) (x3 : Int32) (hrc : ∀ (x2 : Int32) (x3 : Int32) (h : AH), Sim PP (2) k_X0_nextOf (4, [.inr (18, 0), .inl (.int x1), .inl (.int x2), .inl (.int x3)], [], h) (rc x1 x2 x3 h) (fE PP (2) k_X0_nextOf 32 (fun v => [av0, av0, .inl (.int v), av0])))  (h : AH) : Sim PP (2) k_X0_nextOf (4, [.inr (18, 0), .inl (.int x1), .inl (.int x2), .inl (.int x3)], [], h) (b_X0_nextOf_4 rc x1 x2 x3 h) (fE PP (2) k_X0_nextOf 32 (fun v => [av0, av0, .inl (.int v), av0])) := by
  unfold b_X0_nextOf_4
  refine S_br 5 32 9 [.inr (18, 0), .inl (.int x1), .inl (.int x2), .inl (.int x3)] [] h rfl (fun _ => ?_) (fun _ => ?_)
  · exact S_ex x2 (fun v => [av0, av0, .inl (.int v), av0]) rfl
  · refine S_grd 6 (15, [.inr (18, 0), .inl (.int x1), .inl (.int x2), .inl (.int x3)], [.inl (.int (h.1 15 0 x3.toNatClampNeg)), .inl (.int x2)], h) rfl (fun _ => ?_)
    refine S_br 2 17 27 [.inr (18, 0), .inl (.int x1), .inl (.int x2), .inl (.int x3)] [.inl (.int x2)] h rfl (fun _ => ?_) (fun _ => ?_)
    · refine S_di 2 19 0 1 [.inr (18, 0), .inl (.int x1), .inl (.int x2), .inl (.int x3)] [.inl (.int x3), .inr (18, 0), .inl (.int x2)] [.inr (18, 0), .inl (.int x3)] [.inr (18, 0), .inl (.int x1), .inl (.int x2), .inl (.int x3)] [.inl (.int x2)] h rfl rfl pp_0 (by decide) (s_X0_isUsable x3 h) (fun y1 h2 => ?_)
      refine S_br 1 27 21 [.inr (18, 0), .inl (.int x1), .inl (.int x2), .inl (.int x3)] [.inl (.int x2)] h2 rfl (fun _ => ?_) (fun _ => ?_)
      · refine S_blk 5 (4, [.inr (18, 0), .inl (.int x1), .inl (.int (x2 ||| (0 : Int32))), .inl (.int (x3 + (1 : Int32)))], [], h2) rfl ?_
        refine S_nrm [.inr (18, 0), .inl (.int x1), .inl (.int (x2 ||| (0 : Int32))), .inl (.int (x3 + (1 : Int32)))] rfl ?_
        exact hrc (x2 ||| (0 : Int32)) (x3 + (1 : Int32)) h2
      · refine S_grd 5 (26, [.inr (18, 0), .inl (.int x1), .inl (.int x2), .inl (.int x3)], [.inl (.int (h2.1 16 0 x3.toNatClampNeg)), .inl (.int x2)], h2) rfl (fun _ => ?_)
        refine S_blk 5 (4, [.inr (18, 0), .inl (.int x1), .inl (.int (x2 ||| (h2.1 16 0 x3.toNatClampNeg))), .inl (.int (x3 + (1 : Int32)))], [], h2) rfl ?_
        refine S_nrm [.inr (18, 0), .inl (.int x1), .inl (.int (x2 ||| (h2.1 16 0 x3.toNatClampNeg))), .inl (.int (x3 + (1 : Int32)))] rfl ?_
        exact hrc (x2 ||| (h2.1 16 0 x3.toNatClampNeg)) (x3 + (1 : Int32)) h2
    · refine S_blk 5 (4, [.inr (18, 0), .inl (.int x1), .inl (.int (x2 ||| (0 : Int32))), .inl (.int (x3 + (1 : Int32)))], [], h) rfl ?_
      refine S_nrm [.inr (18, 0), .inl (.int x1), .inl (.int (x2 ||| (0 : Int32))), .inl (.int (x3 + (1 : Int32)))] rfl ?_
      exact hrc (x2 ||| (0 : Int32)) (x3 + (1 : Int32)) h
theorem sl_X0_nextOf_4    (x1 : Int32) : ∀ (F : Nat) (x2 : Int32) (x3 : Int32) (h : AH), Sim PP (2) k_X0_nextOf (4, [.inr (18, 0), .inl (.int x1), .inl (.int x2), .inl (.int x3)], [], h) (l_X0_nextOf_4 F x1 x2 x3 h) (fE PP (2) k_X0_nextOf 32 (fun v => [av0, av0, .inl (.int v), av0])) := by
  intro F
  induction F with
  | zero => intro x2 x3 h; exact S_none
  | succ F ih => intro x2 x3 h; exact sb_X0_nextOf_4 (l_X0_nextOf_4 F) x1 x2 x3 ih h
theorem sc_X0_nextOf_32    (x2 : Int32)  (h : AH) : Sim PP (2) k_X0_nextOf (32, [av0, av0, .inl (.int x2), av0], [], h) (c_X0_nextOf_32  x2 h) fI := by
  unfold c_X0_nextOf_32
  exact S_ri 1 (33, [av0, av0, .inl (.int x2), av0], [.inl (.int x2)], h) rfl rfl
theorem s_X0_nextOf (x1 : Int32) (h : AH) : Sim PP (2) k_X0_nextOf (0, [.inr (18, 0), .inl (.int x1), av0, av0], [], h) (f_X0_nextOf x1 h) fI := by
  unfold f_X0_nextOf
  refine S_blk 4 (4, [.inr (18, 0), .inl (.int x1), .inl (.int (0 : Int32)), .inl (.int (0 : Int32))], [], h) rfl ?_
  refine S_nrm [.inr (18, 0), .inl (.int x1), .inl (.int (0 : Int32)), .inl (.int (0 : Int32))] rfl ?_
  refine S_lp 32 (fun v => [av0, av0, .inl (.int v), av0]) (sl_X0_nextOf_4 x1 FU (0 : Int32) (0 : Int32) h) (fun v h => ?_)
  exact sc_X0_nextOf_32 v h
