theorem s_X11_judge (x1 : Int32) (h : AH) : Sim PP (5) k_X11_judge (0, [.inr (0, 0), .inl (.int x1), av0, av0], [], h) (f_X11_judge x1 h) fI := by
  unfold f_X11_judge
  refine S_di 2 2 149 1 [.inr (0, 0), .inl (.int x1), av0, av0] [.inl (.int x1), .inr (0, 0)] [.inr (0, 0), .inl (.int x1), av0, av0, av0] [.inr (0, 0), .inl (.int x1), av0, av0] [] h rfl rfl pp_149 (by decide) (s_X11_refusalOfTale x1 h) (fun y1 h2 => ?_)
  refine S_br 3 8 6 [.inr (0, 0), .inl (.int x1), .inl (.int y1), av0] [] h2 rfl (fun _ => ?_) (fun _ => ?_)
  · refine S_grd 6 (14, [.inr (0, 0), .inl (.int x1), .inl (.int y1), av0], [.inr (2, (x1.toNatClampNeg)), .inr (28, 0)], h2) rfl (fun _ => ?_)
    refine S_di 0 14 63 4 [.inr (0, 0), .inl (.int x1), .inl (.int y1), av0] [.inr (2, (x1.toNatClampNeg)), .inr (28, 0)] [.inr (28, 0), .inr (2, (x1.toNatClampNeg)), av0, av0, av0, av0, av0, av0, av0] [.inr (0, 0), .inl (.int x1), .inl (.int y1), av0] [] h2 rfl rfl pp_63 (by decide) (s_X8_goodPairs (x1.toNatClampNeg) h2) (fun y3 h4 => ?_)
    exact S_ri 7 (22, [.inr (0, 0), .inl (.int x1), .inl (.int y1), .inl (.int y3)], [.inl (.int y3)], (hsI h4 0 0 14 (h4.1 28 0 3))) rfl rfl
  · exact S_ri 1 (7, [.inr (0, 0), .inl (.int x1), .inl (.int y1), av0], [.inl (.int y1)], h2) rfl rfl
theorem sb_X12_needTold_40  (rc : Int32 → Int32 → Int32 → AH → Option (Int32 × AH)) (x1 : Int32) (x2 : Int32) (x3 : Int32) (hrc : ∀ (x2 : Int32) (x3 : Int32) (h : AH), Sim PP (2) k_X12_needTold (40, [.inr (34, 0), .inl (.int x1), .inl (.int x2), .inl (.int x3)], [], h) (rc x1 x2 x3 h) (fE PP (2) k_X12_needTold 73 (fun v => [.inr (34, 0), av0, .inl (.int v), av0])))  (h : AH) : Sim PP (2) k_X12_needTold (40, [.inr (34, 0), .inl (.int x1), .inl (.int x2), .inl (.int x3)], [], h) (b_X12_needTold_40 rc x1 x2 x3 h) (fE PP (2) k_X12_needTold 73 (fun v => [.inr (34, 0), av0, .inl (.int v), av0])) := by
  unfold b_X12_needTold_40
  refine S_grd 5 (45, [.inr (34, 0), .inl (.int x1), .inl (.int x2), .inl (.int x3)], [.inl (.int (h.1 36 0 x1.toNatClampNeg)), .inl (.int x3)], h) rfl (fun _ => ?_)
  refine S_br 1 73 46 [.inr (34, 0), .inl (.int x1), .inl (.int x2), .inl (.int x3)] [] h rfl (fun _ => ?_) (fun _ => ?_)
  · exact S_ex x2 (fun v => [.inr (34, 0), av0, .inl (.int v), av0]) rfl
  · refine S_br 2 69 48 [.inr (34, 0), .inl (.int x1), .inl (.int x2), .inl (.int x3)] [] h rfl (fun _ => ?_) (fun _ => ?_)
    · refine S_blk 4 (40, [.inr (34, 0), .inl (.int x1), .inl (.int (0 : Int32)), .inl (.int (x3 + (1 : Int32)))], [], h) rfl ?_
      refine S_nrm [.inr (34, 0), .inl (.int x1), .inl (.int (0 : Int32)), .inl (.int (x3 + (1 : Int32)))] rfl ?_
      exact hrc (0 : Int32) (x3 + (1 : Int32)) h
    · refine S_gn 3 (c := (2 : Int32) = 0) (51, [.inr (34, 0), .inl (.int x1), .inl (.int x2), .inl (.int x3)], [.inl (.int (x3 - x3 / (2 : Int32) * (2 : Int32)))], h) rfl (by decide) ?_
      refine S_br 1 52 60 [.inr (34, 0), .inl (.int x1), .inl (.int x2), .inl (.int x3)] [] h rfl (fun _ => ?_) (fun _ => ?_)
      · refine S_di 4 56 168 0 [.inr (34, 0), .inl (.int x1), .inl (.int x2), .inl (.int x3)] [.inl (.int x3), .inl (.int x1), .inr (34, 0), .inr (34, 0)] [.inr (34, 0), .inl (.int x1), .inl (.int x3)] [.inr (34, 0), .inl (.int x1), .inl (.int x2), .inl (.int x3)] [.inr (34, 0)] h rfl rfl pp_168 (by decide) (s_X12_rowAt x1 x3 h) (fun y1 h2 => ?_)
        refine S_di 0 57 189 1 [.inr (34, 0), .inl (.int x1), .inl (.int x2), .inl (.int x3)] [.inl (.int y1), .inr (34, 0)] [.inr (34, 0), .inl (.int y1)] [.inr (34, 0), .inl (.int x1), .inl (.int x2), .inl (.int x3)] [] h2 rfl rfl pp_189 (by decide) (s_X12_isClaim y1 h2) (fun y3 h4 => ?_)
        refine S_br 1 69 59 [.inr (34, 0), .inl (.int x1), .inl (.int x2), .inl (.int x3)] [] h4 rfl (fun _ => ?_) (fun _ => ?_)
        · refine S_blk 4 (40, [.inr (34, 0), .inl (.int x1), .inl (.int (0 : Int32)), .inl (.int (x3 + (1 : Int32)))], [], h4) rfl ?_
          refine S_nrm [.inr (34, 0), .inl (.int x1), .inl (.int (0 : Int32)), .inl (.int (x3 + (1 : Int32)))] rfl ?_
          exact hrc (0 : Int32) (x3 + (1 : Int32)) h4
        · refine S_blk 6 (40, [.inr (34, 0), .inl (.int x1), .inl (.int (1 : Int32)), .inl (.int (x3 + (1 : Int32)))], [], h4) rfl ?_
          refine S_nrm [.inr (34, 0), .inl (.int x1), .inl (.int (1 : Int32)), .inl (.int (x3 + (1 : Int32)))] rfl ?_
          exact hrc (1 : Int32) (x3 + (1 : Int32)) h4
      · refine S_di 4 64 168 0 [.inr (34, 0), .inl (.int x1), .inl (.int x2), .inl (.int x3)] [.inl (.int x3), .inl (.int x1), .inr (34, 0), .inr (34, 0)] [.inr (34, 0), .inl (.int x1), .inl (.int x3)] [.inr (34, 0), .inl (.int x1), .inl (.int x2), .inl (.int x3)] [.inr (34, 0)] h rfl rfl pp_168 (by decide) (s_X12_rowAt x1 x3 h) (fun y5 h6 => ?_)
        refine S_di 0 65 190 1 [.inr (34, 0), .inl (.int x1), .inl (.int x2), .inl (.int x3)] [.inl (.int y5), .inr (34, 0)] [.inr (34, 0), .inl (.int y5)] [.inr (34, 0), .inl (.int x1), .inl (.int x2), .inl (.int x3)] [] h6 rfl rfl pp_190 (by decide) (s_X12_isReason y5 h6) (fun y7 h8 => ?_)
        refine S_br 1 69 67 [.inr (34, 0), .inl (.int x1), .inl (.int x2), .inl (.int x3)] [] h8 rfl (fun _ => ?_) (fun _ => ?_)
        · refine S_blk 4 (40, [.inr (34, 0), .inl (.int x1), .inl (.int (0 : Int32)), .inl (.int (x3 + (1 : Int32)))], [], h8) rfl ?_
          refine S_nrm [.inr (34, 0), .inl (.int x1), .inl (.int (0 : Int32)), .inl (.int (x3 + (1 : Int32)))] rfl ?_
          exact hrc (0 : Int32) (x3 + (1 : Int32)) h8
        · refine S_blk 5 (40, [.inr (34, 0), .inl (.int x1), .inl (.int (1 : Int32)), .inl (.int (x3 + (1 : Int32)))], [], h8) rfl ?_
          refine S_nrm [.inr (34, 0), .inl (.int x1), .inl (.int (1 : Int32)), .inl (.int (x3 + (1 : Int32)))] rfl ?_
          exact hrc (1 : Int32) (x3 + (1 : Int32)) h8
theorem sl_X12_needTold_40    (x1 : Int32) : ∀ (F : Nat) (x2 : Int32) (x3 : Int32) (h : AH), Sim PP (2) k_X12_needTold (40, [.inr (34, 0), .inl (.int x1), .inl (.int x2), .inl (.int x3)], [], h) (l_X12_needTold_40 F x1 x2 x3 h) (fE PP (2) k_X12_needTold 73 (fun v => [.inr (34, 0), av0, .inl (.int v), av0])) := by
  intro F
  induction F with
  | zero => intro x2 x3 h; exact S_none
  | succ F ih => intro x2 x3 h; exact sb_X12_needTold_40 (l_X12_needTold_40 F) x1 x2 x3 ih h
theorem sc_X12_needTold_73    (x2 : Int32)  (h : AH) : Sim PP (2) k_X12_needTold (73, [.inr (34, 0), av0, .inl (.int x2), av0], [], h) (c_X12_needTold_73  x2 h) fI := by
  unfold c_X12_needTold_73
  refine S_br 2 77 75 [.inr (34, 0), av0, .inl (.int x2), av0] [] h rfl (fun _ => ?_) (fun _ => ?_)
  · refine S_di 2 79 159 0 [.inr (34, 0), av0, .inl (.int x2), av0] [.inl (.int (3 : Int32)), .inr (34, 0)] [.inr (34, 0), .inl (.int (3 : Int32))] [.inr (34, 0), av0, .inl (.int x2), av0] [] h rfl rfl pp_159 (by decide) (s_X12_meets (3 : Int32) h) (fun y1 h2 => ?_)
    exact S_ri 0 (80, [.inr (34, 0), av0, .inl (.int x2), av0], [.inl (.int y1)], h2) rfl rfl
  · exact S_ri 2 (80, [.inr (34, 0), av0, .inl (.int x2), av0], [.inl (.int (0 : Int32))], h) rfl rfl
theorem s_X12_needTold (x1 : Int32) (h : AH) : Sim PP (2) k_X12_needTold (0, [.inr (34, 0), .inl (.int x1), av0, av0], [], h) (f_X12_needTold x1 h) fI := by
  unfold f_X12_needTold
  refine S_di 1 1 167 1 [.inr (34, 0), .inl (.int x1), av0, av0] [.inl (.int x1)] [.inl (.int x1)] [.inr (34, 0), .inl (.int x1), av0, av0] [] h rfl rfl pp_167 (by decide) (s_X12_isRow x1 h) (fun y1 h2 => ?_)
  refine S_br 1 3 5 [.inr (34, 0), .inl (.int x1), av0, av0] [] h2 rfl (fun _ => ?_) (fun _ => ?_)
  · exact S_ri 1 (4, [.inr (34, 0), .inl (.int x1), av0, av0], [.inl (.int (-1 : Int32))], h2) rfl rfl
  · refine S_br 3 8 10 [.inr (34, 0), .inl (.int x1), av0, av0] [] h2 rfl (fun _ => ?_) (fun _ => ?_)
    · exact S_ri 1 (9, [.inr (34, 0), .inl (.int x1), av0, av0], [.inl (.int (-4 : Int32))], h2) rfl rfl
    · refine S_grd 4 (14, [.inr (34, 0), .inl (.int x1), av0, av0], [.inl (.int (h2.1 36 0 x1.toNatClampNeg))], h2) rfl (fun _ => ?_)
      refine S_br 1 19 15 [.inr (34, 0), .inl (.int x1), av0, av0] [] h2 rfl (fun _ => ?_) (fun _ => ?_)
      · refine S_grd 4 (23, [.inr (34, 0), .inl (.int x1), av0, av0], [.inl (.int (h2.1 36 0 x1.toNatClampNeg))], h2) rfl (fun _ => ?_)
        refine S_gn 2 (c := (2 : Int32) = 0) (25, [.inr (34, 0), .inl (.int x1), av0, av0], [.inl (.int ((h2.1 36 0 x1.toNatClampNeg) - (h2.1 36 0 x1.toNatClampNeg) / (2 : Int32) * (2 : Int32)))], h2) rfl (by decide) ?_
        refine S_br 1 32 26 [.inr (34, 0), .inl (.int x1), av0, av0] [] h2 rfl (fun _ => ?_) (fun _ => ?_)
        · refine S_di 2 34 159 0 [.inr (34, 0), .inl (.int x1), av0, av0] [.inl (.int (5 : Int32)), .inr (34, 0)] [.inr (34, 0), .inl (.int (5 : Int32))] [.inr (34, 0), .inl (.int x1), av0, av0] [] h2 rfl rfl pp_159 (by decide) (s_X12_meets (5 : Int32) h2) (fun y3 h4 => ?_)
          exact S_ri 0 (35, [.inr (34, 0), .inl (.int x1), av0, av0], [.inl (.int y3)], h4) rfl rfl
        · refine S_grd 4 (30, [.inr (34, 0), .inl (.int x1), av0, av0], [.inl (.int (h2.1 36 0 x1.toNatClampNeg))], h2) rfl (fun _ => ?_)
          refine S_br 2 36 32 [.inr (34, 0), .inl (.int x1), av0, av0] [] h2 rfl (fun _ => ?_) (fun _ => ?_)
          · refine S_blk 4 (40, [.inr (34, 0), .inl (.int x1), .inl (.int (1 : Int32)), .inl (.int (0 : Int32))], [], h2) rfl ?_
            refine S_nrm [.inr (34, 0), .inl (.int x1), .inl (.int (1 : Int32)), .inl (.int (0 : Int32))] rfl ?_
            refine S_lp 73 (fun v => [.inr (34, 0), av0, .inl (.int v), av0]) (sl_X12_needTold_40 x1 FU (1 : Int32) (0 : Int32) h2) (fun v h => ?_)
            exact sc_X12_needTold_73 v h
          · refine S_di 2 34 159 0 [.inr (34, 0), .inl (.int x1), av0, av0] [.inl (.int (5 : Int32)), .inr (34, 0)] [.inr (34, 0), .inl (.int (5 : Int32))] [.inr (34, 0), .inl (.int x1), av0, av0] [] h2 rfl rfl pp_159 (by decide) (s_X12_meets (5 : Int32) h2) (fun y5 h6 => ?_)
            exact S_ri 0 (35, [.inr (34, 0), .inl (.int x1), av0, av0], [.inl (.int y5)], h6) rfl rfl
      · refine S_di 2 17 159 0 [.inr (34, 0), .inl (.int x1), av0, av0] [.inl (.int (1 : Int32)), .inr (34, 0)] [.inr (34, 0), .inl (.int (1 : Int32))] [.inr (34, 0), .inl (.int x1), av0, av0] [] h2 rfl rfl pp_159 (by decide) (s_X12_meets (1 : Int32) h2) (fun y7 h8 => ?_)
        exact S_ri 0 (18, [.inr (34, 0), .inl (.int x1), av0, av0], [.inl (.int y7)], h8) rfl rfl
theorem sb_X12_mayAsk_m_tried_7  (rc : Int32 → Int32 → Int32 → AH → Option (Int32 × AH)) (x3 : Int32) (x4 : Int32) (x5 : Int32) (hrc : ∀ (x4 : Int32) (x5 : Int32) (h : AH), Sim PP (0) k_X12_mayAsk (7, [.inr (34, 0), av0, .inr (57, 0), .inl (.int x3), .inl (.int x4), .inl (.int x5)], [], h) (rc x3 x4 x5 h) (fE PP (0) k_X12_mayAsk 26 (fun v => [av0, av0, av0, av0, .inl (.int v), av0])))  (h : AH) : Sim PP (0) k_X12_mayAsk (7, [.inr (34, 0), av0, .inr (57, 0), .inl (.int x3), .inl (.int x4), .inl (.int x5)], [], h) (b_X12_mayAsk_m_tried_7 rc x3 x4 x5 h) (fE PP (0) k_X12_mayAsk 26 (fun v => [av0, av0, av0, av0, .inl (.int v), av0])) := by
  unfold b_X12_mayAsk_m_tried_7
  refine S_br 3 26 10 [.inr (34, 0), av0, .inr (57, 0), .inl (.int x3), .inl (.int x4), .inl (.int x5)] [] h rfl (fun _ => ?_) (fun _ => ?_)
  · exact S_ex x4 (fun v => [av0, av0, av0, av0, .inl (.int v), av0]) rfl
  · refine S_br 4 14 26 [.inr (34, 0), av0, .inr (57, 0), .inl (.int x3), .inl (.int x4), .inl (.int x5)] [] h rfl (fun _ => ?_) (fun _ => ?_)
    · refine S_grd 5 (19, [.inr (34, 0), av0, .inr (57, 0), .inl (.int x3), .inl (.int x4), .inl (.int x5)], [.inl (.int (h.1 57 0 x5.toNatClampNeg)), .inl (.int (1 : Int32)), .inl (.int x4)], h) rfl (fun _ => ?_)
      refine S_blk 7 (7, [.inr (34, 0), av0, .inr (57, 0), .inl (.int x3), .inl (.int (x4 &&& (((1 : Int32) <<< ((h.1 57 0 x5.toNatClampNeg) &&& 31)) ^^^ (-1 : Int32)))), .inl (.int (x5 + (1 : Int32)))], [], h) rfl ?_
      refine S_nrm [.inr (34, 0), av0, .inr (57, 0), .inl (.int x3), .inl (.int (x4 &&& (((1 : Int32) <<< ((h.1 57 0 x5.toNatClampNeg) &&& 31)) ^^^ (-1 : Int32)))), .inl (.int (x5 + (1 : Int32)))] rfl ?_
      exact hrc (x4 &&& (((1 : Int32) <<< ((h.1 57 0 x5.toNatClampNeg) &&& 31)) ^^^ (-1 : Int32))) (x5 + (1 : Int32)) h
    · exact S_ex x4 (fun v => [av0, av0, av0, av0, .inl (.int v), av0]) rfl
theorem sl_X12_mayAsk_m_tried_7    (x3 : Int32) : ∀ (F : Nat) (x4 : Int32) (x5 : Int32) (h : AH), Sim PP (0) k_X12_mayAsk (7, [.inr (34, 0), av0, .inr (57, 0), .inl (.int x3), .inl (.int x4), .inl (.int x5)], [], h) (l_X12_mayAsk_m_tried_7 F x3 x4 x5 h) (fE PP (0) k_X12_mayAsk 26 (fun v => [av0, av0, av0, av0, .inl (.int v), av0])) := by
  intro F
  induction F with
  | zero => intro x4 x5 h; exact S_none
  | succ F ih => intro x4 x5 h; exact sb_X12_mayAsk_m_tried_7 (l_X12_mayAsk_m_tried_7 F) x3 x4 x5 ih h
theorem sc_X12_mayAsk_m_tried_26    (x4 : Int32)  (h : AH) : Sim PP (0) k_X12_mayAsk (26, [av0, av0, av0, av0, .inl (.int x4), av0], [], h) (c_X12_mayAsk_m_tried_26  x4 h) fI := by
  unfold c_X12_mayAsk_m_tried_26
  exact S_ri 1 (27, [av0, av0, av0, av0, .inl (.int x4), av0], [.inl (.int x4)], h) rfl rfl
theorem s_X12_mayAsk_m_tried (x1 : Int32) (x3 : Int32) (h : AH) : Sim PP (0) k_X12_mayAsk (0, [.inr (34, 0), .inl (.int x1), .inr (57, 0), .inl (.int x3), av0, av0], [], h) (f_X12_mayAsk_m_tried x1 x3 h) fI := by
  unfold f_X12_mayAsk_m_tried
  refine S_grd 4 (4, [.inr (34, 0), .inl (.int x1), .inr (57, 0), .inl (.int x3), av0, av0], [.inl (.int (h.1 43 0 x1.toNatClampNeg))], h) rfl (fun _ => ?_)
  refine S_blk 3 (7, [.inr (34, 0), .inl (.int x1), .inr (57, 0), .inl (.int x3), .inl (.int (h.1 43 0 x1.toNatClampNeg)), .inl (.int (0 : Int32))], [], h) rfl ?_
  refine S_nrm [.inr (34, 0), av0, .inr (57, 0), .inl (.int x3), .inl (.int (h.1 43 0 x1.toNatClampNeg)), .inl (.int (0 : Int32))] rfl ?_
  refine S_lp 26 (fun v => [av0, av0, av0, av0, .inl (.int v), av0]) (sl_X12_mayAsk_m_tried_7 x3 FU (h.1 43 0 x1.toNatClampNeg) (0 : Int32) h) (fun v h => ?_)
  exact sc_X12_mayAsk_m_tried_26 v h
theorem sb_X12_mayAnswer_m_tried_10  (rc : Int32 → Int32 → Int32 → Int32 → AH → Option (Int32 × AH)) (x2 : Int32) (x3 : Int32) (x4 : Int32) (x5 : Int32) (hrc : ∀ (x4 : Int32) (x5 : Int32) (h : AH), Sim PP (4) k_X12_mayAnswer (10, [.inr (34, 0), .inr (57, 0), .inl (.int x2), .inl (.int x3), .inl (.int x4), .inl (.int x5)], [], h) (rc x2 x3 x4 x5 h) (fE PP (4) k_X12_mayAnswer 40 (fun v => [av0, av0, av0, av0, .inl (.int v), av0])))  (h : AH) : Sim PP (4) k_X12_mayAnswer (10, [.inr (34, 0), .inr (57, 0), .inl (.int x2), .inl (.int x3), .inl (.int x4), .inl (.int x5)], [], h) (b_X12_mayAnswer_m_tried_10 rc x2 x3 x4 x5 h) (fE PP (4) k_X12_mayAnswer 40 (fun v => [av0, av0, av0, av0, .inl (.int v), av0])) := by
  unfold b_X12_mayAnswer_m_tried_10
  refine S_br 4 40 14 [.inr (34, 0), .inr (57, 0), .inl (.int x2), .inl (.int x3), .inl (.int x4), .inl (.int x5)] [] h rfl (fun _ => ?_) (fun _ => ?_)
  · exact S_ex x4 (fun v => [av0, av0, av0, av0, .inl (.int v), av0]) rfl
  · refine S_di 2 16 216 3 [.inr (34, 0), .inr (57, 0), .inl (.int x2), .inl (.int x3), .inl (.int x4), .inl (.int x5)] [.inl (.int x3), .inr (34, 0)] [.inr (34, 0), .inl (.int x3)] [.inr (34, 0), .inr (57, 0), .inl (.int x2), .inl (.int x3), .inl (.int x4), .inl (.int x5)] [] h rfl rfl pp_216 (by decide) (s_X12_isOver x3 h) (fun y1 h2 => ?_)
    refine S_br 1 18 40 [.inr (34, 0), .inr (57, 0), .inl (.int x2), .inl (.int x3), .inl (.int x4), .inl (.int x5)] [] h2 rfl (fun _ => ?_) (fun _ => ?_)
    · refine S_di 3 21 198 1 [.inr (34, 0), .inr (57, 0), .inl (.int x2), .inl (.int x3), .inl (.int x4), .inl (.int x5)] [.inl (.int x3), .inr (34, 0), .inl (.int x4)] [.inr (34, 0), .inl (.int x3), av0, av0] [.inr (34, 0), .inr (57, 0), .inl (.int x2), .inl (.int x3), .inl (.int x4), .inl (.int x5)] [.inl (.int x4)] h2 rfl rfl pp_198 (by decide) (s_X12_usableFor x3 h2) (fun y3 h4 => ?_)
      refine S_di 1 23 155 0 [.inr (34, 0), .inr (57, 0), .inl (.int x2), .inl (.int x3), .inl (.int x4), .inl (.int x5)] [.inl (.int x5), .inl (.int y3), .inl (.int x4)] [.inl (.int y3), .inl (.int x5)] [.inr (34, 0), .inr (57, 0), .inl (.int x2), .inl (.int x3), .inl (.int x4), .inl (.int x5)] [.inl (.int x4)] h4 rfl rfl pp_155 (by decide) (s_X12_has y3 x5 h4) (fun y5 h6 => ?_)
      refine S_br 1 35 25 [.inr (34, 0), .inr (57, 0), .inl (.int x2), .inl (.int x3), .inl (.int x4), .inl (.int x5)] [.inl (.int x4)] h6 rfl (fun _ => ?_) (fun _ => ?_)
      · refine S_blk 5 (10, [.inr (34, 0), .inr (57, 0), .inl (.int x2), .inl (.int x3), .inl (.int (x4 ||| (0 : Int32))), .inl (.int (x5 + (1 : Int32)))], [], h6) rfl ?_
        refine S_nrm [.inr (34, 0), .inr (57, 0), .inl (.int x2), .inl (.int x3), .inl (.int (x4 ||| (0 : Int32))), .inl (.int (x5 + (1 : Int32)))] rfl ?_
        exact hrc (x4 ||| (0 : Int32)) (x5 + (1 : Int32)) h6
      · refine S_di 4 29 215 0 [.inr (34, 0), .inr (57, 0), .inl (.int x2), .inl (.int x3), .inl (.int x4), .inl (.int x5)] [.inl (.int x2), .inr (57, 0), .inl (.int x5), .inr (34, 0), .inl (.int x4)] [.inr (34, 0), .inl (.int x5), .inr (57, 0), .inl (.int x2), av0, av0] [.inr (34, 0), .inr (57, 0), .inl (.int x2), .inl (.int x3), .inl (.int x4), .inl (.int x5)] [.inl (.int x4)] h6 rfl rfl pp_215 (by decide) (s_X12_mayAsk_m_tried x5 x2 h6) (fun y7 h8 => ?_)
        refine S_br 1 35 31 [.inr (34, 0), .inr (57, 0), .inl (.int x2), .inl (.int x3), .inl (.int x4), .inl (.int x5)] [.inl (.int x4)] h8 rfl (fun _ => ?_) (fun _ => ?_)
        · refine S_blk 5 (10, [.inr (34, 0), .inr (57, 0), .inl (.int x2), .inl (.int x3), .inl (.int (x4 ||| (0 : Int32))), .inl (.int (x5 + (1 : Int32)))], [], h8) rfl ?_
          refine S_nrm [.inr (34, 0), .inr (57, 0), .inl (.int x2), .inl (.int x3), .inl (.int (x4 ||| (0 : Int32))), .inl (.int (x5 + (1 : Int32)))] rfl ?_
          exact hrc (x4 ||| (0 : Int32)) (x5 + (1 : Int32)) h8
        · refine S_blk 8 (10, [.inr (34, 0), .inr (57, 0), .inl (.int x2), .inl (.int x3), .inl (.int (x4 ||| ((1 : Int32) <<< (x5 &&& 31)))), .inl (.int (x5 + (1 : Int32)))], [], h8) rfl ?_
          refine S_nrm [.inr (34, 0), .inr (57, 0), .inl (.int x2), .inl (.int x3), .inl (.int (x4 ||| ((1 : Int32) <<< (x5 &&& 31)))), .inl (.int (x5 + (1 : Int32)))] rfl ?_
          exact hrc (x4 ||| ((1 : Int32) <<< (x5 &&& 31))) (x5 + (1 : Int32)) h8
    · exact S_ex x4 (fun v => [av0, av0, av0, av0, .inl (.int v), av0]) rfl
theorem sl_X12_mayAnswer_m_tried_10    (x2 : Int32) (x3 : Int32) : ∀ (F : Nat) (x4 : Int32) (x5 : Int32) (h : AH), Sim PP (4) k_X12_mayAnswer (10, [.inr (34, 0), .inr (57, 0), .inl (.int x2), .inl (.int x3), .inl (.int x4), .inl (.int x5)], [], h) (l_X12_mayAnswer_m_tried_10 F x2 x3 x4 x5 h) (fE PP (4) k_X12_mayAnswer 40 (fun v => [av0, av0, av0, av0, .inl (.int v), av0])) := by
  intro F
  induction F with
  | zero => intro x4 x5 h; exact S_none
  | succ F ih => intro x4 x5 h; exact sb_X12_mayAnswer_m_tried_10 (l_X12_mayAnswer_m_tried_10 F) x2 x3 x4 x5 ih h
theorem sc_X12_mayAnswer_m_tried_40    (x4 : Int32)  (h : AH) : Sim PP (4) k_X12_mayAnswer (40, [av0, av0, av0, av0, .inl (.int x4), av0], [], h) (c_X12_mayAnswer_m_tried_40  x4 h) fI := by
  unfold c_X12_mayAnswer_m_tried_40
  exact S_ri 1 (41, [av0, av0, av0, av0, .inl (.int x4), av0], [.inl (.int x4)], h) rfl rfl
theorem s_X12_mayAnswer_m_tried (x2 : Int32) (h : AH) : Sim PP (4) k_X12_mayAnswer (0, [.inr (34, 0), .inr (57, 0), .inl (.int x2), av0, av0, av0], [], h) (f_X12_mayAnswer_m_tried x2 h) fI := by
  unfold f_X12_mayAnswer_m_tried
  refine S_grd 5 (5, [.inr (34, 0), .inr (57, 0), .inl (.int x2), av0, av0, av0], [.inl (.int (h.1 57 0 (x2 - (1 : Int32)).toNatClampNeg))], h) rfl (fun _ => ?_)
  refine S_blk 5 (10, [.inr (34, 0), .inr (57, 0), .inl (.int x2), .inl (.int (h.1 57 0 (x2 - (1 : Int32)).toNatClampNeg)), .inl (.int (0 : Int32)), .inl (.int (0 : Int32))], [], h) rfl ?_
  refine S_nrm [.inr (34, 0), .inr (57, 0), .inl (.int x2), .inl (.int (h.1 57 0 (x2 - (1 : Int32)).toNatClampNeg)), .inl (.int (0 : Int32)), .inl (.int (0 : Int32))] rfl ?_
  refine S_lp 40 (fun v => [av0, av0, av0, av0, .inl (.int v), av0]) (sl_X12_mayAnswer_m_tried_10 x2 (h.1 57 0 (x2 - (1 : Int32)).toNatClampNeg) FU (0 : Int32) (0 : Int32) h) (fun v h => ?_)
  exact sc_X12_mayAnswer_m_tried_40 v h
theorem s_X12_canAnswer_m_tried (x2 : Int32) (x3 : Int32) (x4 : Int32) (h : AH) : Sim PP (5) k_X12_canAnswer (0, [.inr (34, 0), .inr (57, 0), .inl (.int x2), .inl (.int x3), .inl (.int x4)], [], h) (f_X12_canAnswer_m_tried x2 x3 x4 h) fI := by
  unfold f_X12_canAnswer_m_tried
  refine S_di 3 3 217 4 [.inr (34, 0), .inr (57, 0), .inl (.int x2), .inl (.int x3), .inl (.int x4)] [.inl (.int x2), .inr (57, 0), .inr (34, 0)] [.inr (34, 0), .inr (57, 0), .inl (.int x2), av0, av0, av0] [.inr (34, 0), .inr (57, 0), .inl (.int x2), .inl (.int x3), .inl (.int x4)] [] h rfl rfl pp_217 (by decide) (s_X12_mayAnswer_m_tried x2 h) (fun y1 h2 => ?_)
  refine S_di 1 5 155 0 [.inr (34, 0), .inr (57, 0), .inl (.int x2), .inl (.int x3), .inl (.int x4)] [.inl (.int x3), .inl (.int y1)] [.inl (.int y1), .inl (.int x3)] [.inr (34, 0), .inr (57, 0), .inl (.int x2), .inl (.int x3), .inl (.int x4)] [] h2 rfl rfl pp_155 (by decide) (s_X12_has y1 x3 h2) (fun y3 h4 => ?_)
  refine S_br 1 17 7 [.inr (34, 0), .inr (57, 0), .inl (.int x2), .inl (.int x3), .inl (.int x4)] [] h4 rfl (fun _ => ?_) (fun _ => ?_)
  · exact S_ri 1 (18, [.inr (34, 0), .inr (57, 0), .inl (.int x2), .inl (.int x3), .inl (.int x4)], [.inl (.int (0 : Int32))], h4) rfl rfl
  · refine S_di 4 11 215 0 [.inr (34, 0), .inr (57, 0), .inl (.int x2), .inl (.int x3), .inl (.int x4)] [.inl (.int x2), .inr (57, 0), .inl (.int x3), .inr (34, 0)] [.inr (34, 0), .inl (.int x3), .inr (57, 0), .inl (.int x2), av0, av0] [.inr (34, 0), .inr (57, 0), .inl (.int x2), .inl (.int x3), .inl (.int x4)] [] h4 rfl rfl pp_215 (by decide) (s_X12_mayAsk_m_tried x3 x2 h4) (fun y5 h6 => ?_)
    refine S_di 1 13 155 0 [.inr (34, 0), .inr (57, 0), .inl (.int x2), .inl (.int x3), .inl (.int x4)] [.inl (.int x4), .inl (.int y5)] [.inl (.int y5), .inl (.int x4)] [.inr (34, 0), .inr (57, 0), .inl (.int x2), .inl (.int x3), .inl (.int x4)] [] h6 rfl rfl pp_155 (by decide) (s_X12_has y5 x4 h6) (fun y7 h8 => ?_)
    refine S_br 1 17 15 [.inr (34, 0), .inr (57, 0), .inl (.int x2), .inl (.int x3), .inl (.int x4)] [] h8 rfl (fun _ => ?_) (fun _ => ?_)
    · exact S_ri 1 (18, [.inr (34, 0), .inr (57, 0), .inl (.int x2), .inl (.int x3), .inl (.int x4)], [.inl (.int (0 : Int32))], h8) rfl rfl
    · exact S_ri 2 (18, [.inr (34, 0), .inr (57, 0), .inl (.int x2), .inl (.int x3), .inl (.int x4)], [.inl (.int (1 : Int32))], h8) rfl rfl
theorem s_X12_endOf_m_tried (x2 : Int32) (h : AH) : Sim PP (5) k_X12_endOf (0, [.inr (34, 0), .inr (57, 0), .inl (.int x2), av0], [], h) (f_X12_endOf_m_tried x2 h) fI := by
  unfold f_X12_endOf_m_tried
  refine S_grd 5 (5, [.inr (34, 0), .inr (57, 0), .inl (.int x2), av0], [.inl (.int (h.1 57 0 (x2 - (1 : Int32)).toNatClampNeg))], h) rfl (fun _ => ?_)
  refine S_grd 5 (10, [.inr (34, 0), .inr (57, 0), .inl (.int x2), .inl (.int (h.1 57 0 (x2 - (1 : Int32)).toNatClampNeg))], [.inl (.int (h.1 41 0 (h.1 57 0 (x2 - (1 : Int32)).toNatClampNeg).toNatClampNeg))], h) rfl (fun _ => ?_)
  refine S_br 2 12 14 [.inr (34, 0), .inr (57, 0), .inl (.int x2), .inl (.int (h.1 57 0 (x2 - (1 : Int32)).toNatClampNeg))] [] h rfl (fun _ => ?_) (fun _ => ?_)
  · exact S_ri 2 (28, [.inr (34, 0), .inr (57, 0), .inl (.int x2), .inl (.int (h.1 57 0 (x2 - (1 : Int32)).toNatClampNeg))], [.inl (.int (1 : Int32))], h) rfl rfl
  · refine S_di 2 16 199 2 [.inr (34, 0), .inr (57, 0), .inl (.int x2), .inl (.int (h.1 57 0 (x2 - (1 : Int32)).toNatClampNeg))] [.inl (.int (h.1 57 0 (x2 - (1 : Int32)).toNatClampNeg)), .inr (34, 0)] [.inr (34, 0), .inl (.int (h.1 57 0 (x2 - (1 : Int32)).toNatClampNeg))] [.inr (34, 0), .inr (57, 0), .inl (.int x2), .inl (.int (h.1 57 0 (x2 - (1 : Int32)).toNatClampNeg))] [] h rfl rfl pp_199 (by decide) (s_X12_isAtLoss (h.1 57 0 (x2 - (1 : Int32)).toNatClampNeg) h) (fun y1 h2 => ?_)
    refine S_br 1 20 18 [.inr (34, 0), .inr (57, 0), .inl (.int x2), .inl (.int (h.1 57 0 (x2 - (1 : Int32)).toNatClampNeg))] [] h2 rfl (fun _ => ?_) (fun _ => ?_)
    · refine S_di 3 23 217 4 [.inr (34, 0), .inr (57, 0), .inl (.int x2), .inl (.int (h.1 57 0 (x2 - (1 : Int32)).toNatClampNeg))] [.inl (.int x2), .inr (57, 0), .inr (34, 0)] [.inr (34, 0), .inr (57, 0), .inl (.int x2), av0, av0, av0] [.inr (34, 0), .inr (57, 0), .inl (.int x2), .inl (.int (h.1 57 0 (x2 - (1 : Int32)).toNatClampNeg))] [] h2 rfl rfl pp_217 (by decide) (s_X12_mayAnswer_m_tried x2 h2) (fun y3 h4 => ?_)
      refine S_br 1 25 27 [.inr (34, 0), .inr (57, 0), .inl (.int x2), .inl (.int (h.1 57 0 (x2 - (1 : Int32)).toNatClampNeg))] [] h4 rfl (fun _ => ?_) (fun _ => ?_)
      · exact S_ri 2 (28, [.inr (34, 0), .inr (57, 0), .inl (.int x2), .inl (.int (h.1 57 0 (x2 - (1 : Int32)).toNatClampNeg))], [.inl (.int (3 : Int32))], h4) rfl rfl
      · exact S_ri 1 (28, [.inr (34, 0), .inr (57, 0), .inl (.int x2), .inl (.int (h.1 57 0 (x2 - (1 : Int32)).toNatClampNeg))], [.inl (.int (0 : Int32))], h4) rfl rfl
    · exact S_ri 2 (28, [.inr (34, 0), .inr (57, 0), .inl (.int x2), .inl (.int (h.1 57 0 (x2 - (1 : Int32)).toNatClampNeg))], [.inl (.int (2 : Int32))], h2) rfl rfl
theorem sb_X12_judge_18  (rc : Int32 → Int32 → AH → Option (Int32 × AH)) (x1 : Int32) (x3 : Int32) (hrc : ∀ (x3 : Int32) (h : AH), Sim PP (6) k_X12_judge (18, [.inr (34, 0), .inl (.int x1), av0, .inl (.int x3)], [], h) (rc x1 x3 h) (fE PP (6) k_X12_judge 58 (fun v => [.inr (34, 0), av0, av0, .inl (.int v)])))  (h : AH) : Sim PP (6) k_X12_judge (18, [.inr (34, 0), .inl (.int x1), av0, .inl (.int x3)], [], h) (b_X12_judge_18 rc x1 x3 h) (fE PP (6) k_X12_judge 58 (fun v => [.inr (34, 0), av0, av0, .inl (.int v)])) := by
  unfold b_X12_judge_18
  refine S_grd 7 (25, [.inr (34, 0), .inl (.int x1), av0, .inl (.int x3)], [.inl (.int (h.1 36 0 x1.toNatClampNeg)), .inl (.int ((2 : Int32) * x3))], h) rfl (fun _ => ?_)
  refine S_br 1 58 26 [.inr (34, 0), .inl (.int x1), av0, .inl (.int x3)] [] h rfl (fun _ => ?_) (fun _ => ?_)
  · exact S_ex x3 (fun v => [.inr (34, 0), av0, av0, .inl (.int v)]) rfl
  · refine S_di 11 37 168 0 [.inr (34, 0), .inl (.int x1), av0, .inl (.int x3)] [.inl (.int (((2 : Int32) * x3) - (1 : Int32))), .inl (.int x1), .inr (34, 0), .inl (.int x3), .inr (57, 0), .inr (34, 0)] [.inr (34, 0), .inl (.int x1), .inl (.int (((2 : Int32) * x3) - (1 : Int32)))] [.inr (34, 0), .inl (.int x1), av0, .inl (.int x3)] [.inl (.int x3), .inr (57, 0), .inr (34, 0)] h rfl rfl pp_168 (by decide) (s_X12_rowAt x1 (((2 : Int32) * x3) - (1 : Int32)) h) (fun y1 h2 => ?_)
    refine S_di 5 43 168 0 [.inr (34, 0), .inl (.int x1), av0, .inl (.int x3)] [.inl (.int ((2 : Int32) * x3)), .inl (.int x1), .inr (34, 0), .inl (.int y1), .inl (.int x3), .inr (57, 0), .inr (34, 0)] [.inr (34, 0), .inl (.int x1), .inl (.int ((2 : Int32) * x3))] [.inr (34, 0), .inl (.int x1), av0, .inl (.int x3)] [.inl (.int y1), .inl (.int x3), .inr (57, 0), .inr (34, 0)] h2 rfl rfl pp_168 (by decide) (s_X12_rowAt x1 ((2 : Int32) * x3) h2) (fun y3 h4 => ?_)
    refine S_di 0 44 220 5 [.inr (34, 0), .inl (.int x1), av0, .inl (.int x3)] [.inl (.int y3), .inl (.int y1), .inl (.int x3), .inr (57, 0), .inr (34, 0)] [.inr (34, 0), .inr (57, 0), .inl (.int x3), .inl (.int y1), .inl (.int y3)] [.inr (34, 0), .inl (.int x1), av0, .inl (.int x3)] [] h4 rfl rfl pp_220 (by decide) (s_X12_canAnswer_m_tried x3 y1 y3 h4) (fun y5 h6 => ?_)
    refine S_br 1 58 46 [.inr (34, 0), .inl (.int x1), av0, .inl (.int x3)] [] h6 rfl (fun _ => ?_) (fun _ => ?_)
    · exact S_ex x3 (fun v => [.inr (34, 0), av0, av0, .inl (.int v)]) rfl
    · refine S_di 8 54 168 0 [.inr (34, 0), .inl (.int x1), av0, .inl (.int x3)] [.inl (.int ((2 : Int32) * x3)), .inl (.int x1), .inr (34, 0), .inl (.int x3), .inr (57, 0)] [.inr (34, 0), .inl (.int x1), .inl (.int ((2 : Int32) * x3))] [.inr (34, 0), .inl (.int x1), av0, .inl (.int x3)] [.inl (.int x3), .inr (57, 0)] h6 rfl rfl pp_168 (by decide) (s_X12_rowAt x1 ((2 : Int32) * x3) h6) (fun y7 h8 => ?_)
      refine S_grd 1 (56, [.inr (34, 0), .inl (.int x1), av0, .inl (.int x3)], [], (hsI h8 57 0 x3.toNatClampNeg y7)) rfl (fun _ => ?_)
      refine S_blk 2 (18, [.inr (34, 0), .inl (.int x1), av0, .inl (.int (x3 + (1 : Int32)))], [], (hsI h8 57 0 x3.toNatClampNeg y7)) rfl ?_
      refine S_nrm [.inr (34, 0), .inl (.int x1), av0, .inl (.int (x3 + (1 : Int32)))] rfl ?_
      exact hrc (x3 + (1 : Int32)) (hsI h8 57 0 x3.toNatClampNeg y7)
theorem sl_X12_judge_18    (x1 : Int32) : ∀ (F : Nat) (x3 : Int32) (h : AH), Sim PP (6) k_X12_judge (18, [.inr (34, 0), .inl (.int x1), av0, .inl (.int x3)], [], h) (l_X12_judge_18 F x1 x3 h) (fE PP (6) k_X12_judge 58 (fun v => [.inr (34, 0), av0, av0, .inl (.int v)])) := by
  intro F
  induction F with
  | zero => intro x3 h; exact S_none
  | succ F ih => intro x3 h; exact sb_X12_judge_18 (l_X12_judge_18 F) x1 x3 ih h
theorem sc_X12_judge_58    (x3 : Int32)  (h : AH) : Sim PP (6) k_X12_judge (58, [.inr (34, 0), av0, av0, .inl (.int x3)], [], h) (c_X12_judge_58  x3 h) fI := by
  unfold c_X12_judge_58
  refine S_di 5 63 218 5 [.inr (34, 0), av0, av0, .inl (.int x3)] [.inl (.int x3), .inr (57, 0), .inr (34, 0), .inr (34, 0)] [.inr (34, 0), .inr (57, 0), .inl (.int x3), av0] [.inr (34, 0), av0, av0, .inl (.int x3)] [.inr (34, 0)] h rfl rfl pp_218 (by decide) (s_X12_endOf_m_tried x3 h) (fun y1 h2 => ?_)
  refine S_di 3 67 162 0 [.inr (34, 0), av0, av0, .inl (.int x3)] [.inl (.int (x3 - (1 : Int32))), .inl (.int y1), .inr (34, 0)] [.inr (34, 0), .inl (.int y1), .inl (.int (x3 - (1 : Int32)))] [.inr (34, 0), av0, av0, .inl (.int x3)] [] h2 rfl rfl pp_162 (by decide) (s_X12_tells y1 (x3 - (1 : Int32)) h2) (fun y3 h4 => ?_)
  exact S_ri 0 (68, [.inr (34, 0), av0, av0, .inl (.int x3)], [.inl (.int y3)], h4) rfl rfl
theorem s_X12_judge (x1 : Int32) (h : AH) : Sim PP (6) k_X12_judge (0, [.inr (34, 0), .inl (.int x1), av0, av0], [], h) (f_X12_judge x1 h) fI := by
  unfold f_X12_judge
  refine S_di 2 2 256 2 [.inr (34, 0), .inl (.int x1), av0, av0] [.inl (.int x1), .inr (34, 0)] [.inr (34, 0), .inl (.int x1), av0, av0] [.inr (34, 0), .inl (.int x1), av0, av0] [] h rfl rfl pp_256 (by decide) (s_X12_needTold x1 h) (fun y1 h2 => ?_)
  refine S_br 3 8 6 [.inr (34, 0), .inl (.int x1), .inl (.int y1), av0] [] h2 rfl (fun _ => ?_) (fun _ => ?_)
  · refine S_di 6 14 168 0 [.inr (34, 0), .inl (.int x1), .inl (.int y1), av0] [.inl (.int (0 : Int32)), .inl (.int x1), .inr (34, 0), .inl (.int (0 : Int32)), .inr (57, 0)] [.inr (34, 0), .inl (.int x1), .inl (.int (0 : Int32))] [.inr (34, 0), .inl (.int x1), .inl (.int y1), av0] [.inl (.int (0 : Int32)), .inr (57, 0)] h2 rfl rfl pp_168 (by decide) (s_X12_rowAt x1 (0 : Int32) h2) (fun y3 h4 => ?_)
    refine S_gt 1 (c := inb (0 : Int32) 32 = true) (16, [.inr (34, 0), .inl (.int x1), .inl (.int y1), av0], [], (hsI h4 57 0 (0 : Int32).toNatClampNeg y3)) rfl (by decide) ?_
    refine S_blk 2 (18, [.inr (34, 0), .inl (.int x1), .inl (.int y1), .inl (.int (1 : Int32))], [], (hsI h4 57 0 (0 : Int32).toNatClampNeg y3)) rfl ?_
    refine S_nrm [.inr (34, 0), .inl (.int x1), av0, .inl (.int (1 : Int32))] rfl ?_
    refine S_lp 58 (fun v => [.inr (34, 0), av0, av0, .inl (.int v)]) (sl_X12_judge_18 x1 FU (1 : Int32) (hsI h4 57 0 (0 : Int32).toNatClampNeg y3)) (fun v h => ?_)
    exact sc_X12_judge_58 v h
  · exact S_ri 1 (7, [.inr (34, 0), .inl (.int x1), .inl (.int y1), av0], [.inl (.int y1)], h2) rfl rfl
theorem sb_X8_reasonsIn_4  (rc : Nat → Int32 → Int32 → AH → Option (Int32 × AH)) (r1 : Nat) (x2 : Int32) (x3 : Int32) (hrc : ∀ (x2 : Int32) (x3 : Int32) (h : AH), Sim PP (0) k_X8_reasonsIn (4, [av0, .inr (2, r1), .inl (.int x2), .inl (.int x3)], [], h) (rc r1 x2 x3 h) (fE PP (0) k_X8_reasonsIn 19 (fun v => [av0, av0, .inl (.int v), av0])))  (h : AH) : Sim PP (0) k_X8_reasonsIn (4, [av0, .inr (2, r1), .inl (.int x2), .inl (.int x3)], [], h) (b_X8_reasonsIn_4 rc r1 x2 x3 h) (fE PP (0) k_X8_reasonsIn 19 (fun v => [av0, av0, .inl (.int v), av0])) := by
  unfold b_X8_reasonsIn_4
  refine S_br 4 19 8 [av0, .inr (2, r1), .inl (.int x2), .inl (.int x3)] [] h rfl (fun _ => ?_) (fun _ => ?_)
  · exact S_ex x2 (fun v => [av0, av0, .inl (.int v), av0]) rfl
  · refine S_grd 6 (14, [av0, .inr (2, r1), .inl (.int x2), .inl (.int x3)], [.inl (.int (h.1 3 r1 x3.toNatClampNeg)), .inl (.int (1 : Int32)), .inl (.int x2)], h) rfl (fun _ => ?_)
    refine S_blk 5 (4, [av0, .inr (2, r1), .inl (.int (x2 ||| ((1 : Int32) <<< ((h.1 3 r1 x3.toNatClampNeg) &&& 31)))), .inl (.int (x3 + (2 : Int32)))], [], h) rfl ?_
    refine S_nrm [av0, .inr (2, r1), .inl (.int (x2 ||| ((1 : Int32) <<< ((h.1 3 r1 x3.toNatClampNeg) &&& 31)))), .inl (.int (x3 + (2 : Int32)))] rfl ?_
    exact hrc (x2 ||| ((1 : Int32) <<< ((h.1 3 r1 x3.toNatClampNeg) &&& 31))) (x3 + (2 : Int32)) h
theorem sl_X8_reasonsIn_4    (r1 : Nat) : ∀ (F : Nat) (x2 : Int32) (x3 : Int32) (h : AH), Sim PP (0) k_X8_reasonsIn (4, [av0, .inr (2, r1), .inl (.int x2), .inl (.int x3)], [], h) (l_X8_reasonsIn_4 F r1 x2 x3 h) (fE PP (0) k_X8_reasonsIn 19 (fun v => [av0, av0, .inl (.int v), av0])) := by
  intro F
  induction F with
  | zero => intro x2 x3 h; exact S_none
  | succ F ih => intro x2 x3 h; exact sb_X8_reasonsIn_4 (l_X8_reasonsIn_4 F) r1 x2 x3 ih h
theorem sc_X8_reasonsIn_19    (x2 : Int32)  (h : AH) : Sim PP (0) k_X8_reasonsIn (19, [av0, av0, .inl (.int x2), av0], [], h) (c_X8_reasonsIn_19  x2 h) fI := by
  unfold c_X8_reasonsIn_19
  exact S_ri 1 (20, [av0, av0, .inl (.int x2), av0], [.inl (.int x2)], h) rfl rfl
theorem s_X8_reasonsIn (r1 : Nat) (h : AH) : Sim PP (0) k_X8_reasonsIn (0, [.inr (28, 0), .inr (2, r1), av0, av0], [], h) (f_X8_reasonsIn r1 h) fI := by
  unfold f_X8_reasonsIn
  refine S_blk 4 (4, [.inr (28, 0), .inr (2, r1), .inl (.int (0 : Int32)), .inl (.int (1 : Int32))], [], h) rfl ?_
  refine S_nrm [av0, .inr (2, r1), .inl (.int (0 : Int32)), .inl (.int (1 : Int32))] rfl ?_
  refine S_lp 19 (fun v => [av0, av0, .inl (.int v), av0]) (sl_X8_reasonsIn_4 r1 FU (0 : Int32) (1 : Int32) h) (fun v h => ?_)
  exact sc_X8_reasonsIn_19 v h
theorem sb_X8_claimsIn_4  (rc : Nat → Int32 → Int32 → AH → Option (Int32 × AH)) (r1 : Nat) (x2 : Int32) (x3 : Int32) (hrc : ∀ (x2 : Int32) (x3 : Int32) (h : AH), Sim PP (0) k_X8_claimsIn (4, [.inr (28, 0), .inr (2, r1), .inl (.int x2), .inl (.int x3), av0], [], h) (rc r1 x2 x3 h) (fE PP (0) k_X8_claimsIn 32 (fun v => [av0, av0, .inl (.int v), av0, av0])))  (h : AH) : Sim PP (0) k_X8_claimsIn (4, [.inr (28, 0), .inr (2, r1), .inl (.int x2), .inl (.int x3), av0], [], h) (b_X8_claimsIn_4 rc r1 x2 x3 h) (fE PP (0) k_X8_claimsIn 32 (fun v => [av0, av0, .inl (.int v), av0, av0])) := by
  unfold b_X8_claimsIn_4
  refine S_br 4 32 8 [.inr (28, 0), .inr (2, r1), .inl (.int x2), .inl (.int x3), av0] [] h rfl (fun _ => ?_) (fun _ => ?_)
  · exact S_ex x2 (fun v => [av0, av0, .inl (.int v), av0, av0]) rfl
  · refine S_grd 4 (12, [.inr (28, 0), .inr (2, r1), .inl (.int x2), .inl (.int x3), av0], [.inl (.int (h.1 3 r1 x3.toNatClampNeg))], h) rfl (fun _ => ?_)
    refine S_gn 5 (c := (2 : Int32) = 0) (17, [.inr (28, 0), .inr (2, r1), .inl (.int x2), .inl (.int x3), .inl (.int (h.1 3 r1 x3.toNatClampNeg))], [.inl (.int (x3 - x3 / (2 : Int32) * (2 : Int32))), .inl (.int x2)], h) rfl (by decide) ?_
    refine S_br 2 19 25 [.inr (28, 0), .inr (2, r1), .inl (.int x2), .inl (.int x3), .inl (.int (h.1 3 r1 x3.toNatClampNeg))] [.inl (.int x2)] h rfl (fun _ => ?_) (fun _ => ?_)
    · refine S_grd 5 (24, [.inr (28, 0), .inr (2, r1), .inl (.int x2), .inl (.int x3), .inl (.int (h.1 3 r1 x3.toNatClampNeg))], [.inl (.int (h.1 16 0 (h.1 3 r1 x3.toNatClampNeg).toNatClampNeg)), .inl (.int x2)], h) rfl (fun _ => ?_)
      refine S_blk 5 (4, [.inr (28, 0), .inr (2, r1), .inl (.int (x2 ||| (h.1 16 0 (h.1 3 r1 x3.toNatClampNeg).toNatClampNeg))), .inl (.int (x3 + (1 : Int32))), .inl (.int (h.1 3 r1 x3.toNatClampNeg))], [], h) rfl ?_
      refine S_nrm [.inr (28, 0), .inr (2, r1), .inl (.int (x2 ||| (h.1 16 0 (h.1 3 r1 x3.toNatClampNeg).toNatClampNeg))), .inl (.int (x3 + (1 : Int32))), av0] rfl ?_
      exact hrc (x2 ||| (h.1 16 0 (h.1 3 r1 x3.toNatClampNeg).toNatClampNeg)) (x3 + (1 : Int32)) h
    · refine S_blk 7 (4, [.inr (28, 0), .inr (2, r1), .inl (.int (x2 ||| ((1 : Int32) <<< ((h.1 3 r1 x3.toNatClampNeg) &&& 31)))), .inl (.int (x3 + (1 : Int32))), .inl (.int (h.1 3 r1 x3.toNatClampNeg))], [], h) rfl ?_
      refine S_nrm [.inr (28, 0), .inr (2, r1), .inl (.int (x2 ||| ((1 : Int32) <<< ((h.1 3 r1 x3.toNatClampNeg) &&& 31)))), .inl (.int (x3 + (1 : Int32))), av0] rfl ?_
      exact hrc (x2 ||| ((1 : Int32) <<< ((h.1 3 r1 x3.toNatClampNeg) &&& 31))) (x3 + (1 : Int32)) h
theorem sl_X8_claimsIn_4    (r1 : Nat) : ∀ (F : Nat) (x2 : Int32) (x3 : Int32) (h : AH), Sim PP (0) k_X8_claimsIn (4, [.inr (28, 0), .inr (2, r1), .inl (.int x2), .inl (.int x3), av0], [], h) (l_X8_claimsIn_4 F r1 x2 x3 h) (fE PP (0) k_X8_claimsIn 32 (fun v => [av0, av0, .inl (.int v), av0, av0])) := by
  intro F
  induction F with
  | zero => intro x2 x3 h; exact S_none
  | succ F ih => intro x2 x3 h; exact sb_X8_claimsIn_4 (l_X8_claimsIn_4 F) r1 x2 x3 ih h
theorem sc_X8_claimsIn_32    (x2 : Int32)  (h : AH) : Sim PP (0) k_X8_claimsIn (32, [av0, av0, .inl (.int x2), av0, av0], [], h) (c_X8_claimsIn_32  x2 h) fI := by
  unfold c_X8_claimsIn_32
  exact S_ri 1 (33, [av0, av0, .inl (.int x2), av0, av0], [.inl (.int x2)], h) rfl rfl
theorem s_X8_claimsIn (r1 : Nat) (h : AH) : Sim PP (0) k_X8_claimsIn (0, [.inr (28, 0), .inr (2, r1), av0, av0, av0], [], h) (f_X8_claimsIn r1 h) fI := by
  unfold f_X8_claimsIn
  refine S_blk 4 (4, [.inr (28, 0), .inr (2, r1), .inl (.int (0 : Int32)), .inl (.int (0 : Int32)), av0], [], h) rfl ?_
  refine S_nrm [.inr (28, 0), .inr (2, r1), .inl (.int (0 : Int32)), .inl (.int (0 : Int32)), av0] rfl ?_
  refine S_lp 32 (fun v => [av0, av0, .inl (.int v), av0, av0]) (sl_X8_claimsIn_4 r1 FU (0 : Int32) (0 : Int32) h) (fun v h => ?_)
  exact sc_X8_claimsIn_32 v h
theorem s_X11_held (x1 : Int32) (h : AH) : Sim PP (3) k_X11_held (0, [.inr (0, 0), .inl (.int x1), av0], [], h) (f_X11_held x1 h) fI := by
  unfold f_X11_held
  refine S_di 2 2 149 1 [.inr (0, 0), .inl (.int x1), av0] [.inl (.int x1), .inr (0, 0)] [.inr (0, 0), .inl (.int x1), av0, av0, av0] [.inr (0, 0), .inl (.int x1), av0] [] h rfl rfl pp_149 (by decide) (s_X11_refusalOfTale x1 h) (fun y1 h2 => ?_)
  refine S_br 3 8 6 [.inr (0, 0), .inl (.int x1), .inl (.int y1)] [] h2 rfl (fun _ => ?_) (fun _ => ?_)
  · refine S_grd 12 (20, [.inr (0, 0), .inl (.int x1), .inl (.int y1)], [.inr (2, (x1.toNatClampNeg)), .inr (28, 0), .inl (.int (h2.1 8 3 3)), .inr (18, 0), .inr (0, 0)], h2) rfl (fun _ => ?_)
    refine S_di 0 20 64 0 [.inr (0, 0), .inl (.int x1), .inl (.int y1)] [.inr (2, (x1.toNatClampNeg)), .inr (28, 0), .inl (.int (h2.1 8 3 3)), .inr (18, 0), .inr (0, 0)] [.inr (28, 0), .inr (2, (x1.toNatClampNeg)), av0, av0] [.inr (0, 0), .inl (.int x1), .inl (.int y1)] [.inl (.int (h2.1 8 3 3)), .inr (18, 0), .inr (0, 0)] h2 rfl rfl pp_64 (by decide) (s_X8_reasonsIn (x1.toNatClampNeg) h2) (fun y3 h4 => ?_)
    refine S_di 0 21 8 2 [.inr (0, 0), .inl (.int x1), .inl (.int y1)] [.inl (.int y3), .inl (.int (h2.1 8 3 3)), .inr (18, 0), .inr (0, 0)] [.inr (18, 0), .inl (.int (h2.1 8 3 3)), .inl (.int y3), av0, av0, av0, av0, av0, av0] [.inr (0, 0), .inl (.int x1), .inl (.int y1)] [.inr (0, 0)] h4 rfl rfl pp_8 (by decide) (s_X0_standingBy (h2.1 8 3 3) y3 h4) (fun y5 h6 => ?_)
    refine S_grd 7 (29, [.inr (0, 0), .inl (.int x1), .inl (.int y1)], [.inr (2, (x1.toNatClampNeg)), .inr (28, 0)], (hsI h6 0 0 14 y5)) rfl (fun _ => ?_)
    refine S_di 0 29 65 0 [.inr (0, 0), .inl (.int x1), .inl (.int y1)] [.inr (2, (x1.toNatClampNeg)), .inr (28, 0)] [.inr (28, 0), .inr (2, (x1.toNatClampNeg)), av0, av0, av0] [.inr (0, 0), .inl (.int x1), .inl (.int y1)] [] (hsI h6 0 0 14 y5) rfl rfl pp_65 (by decide) (s_X8_claimsIn (x1.toNatClampNeg) (hsI h6 0 0 14 y5)) (fun y7 h8 => ?_)
    exact S_ri 0 (30, [.inr (0, 0), .inl (.int x1), .inl (.int y1)], [.inl (.int y7)], h8) rfl rfl
  · exact S_ri 1 (7, [.inr (0, 0), .inl (.int x1), .inl (.int y1)], [.inl (.int y1)], h2) rfl rfl
theorem sb_X12_held_14  (rc : Int32 → Int32 → Int32 → Int32 → AH → Option ((Int32 × Int32) × AH)) (x1 : Int32) (x3 : Int32) (x4 : Int32) (x5 : Int32) (hrc : ∀ (x3 : Int32) (x4 : Int32) (x5 : Int32) (h : AH), Sim PP (3) k_X12_held (14, [.inr (34, 0), .inl (.int x1), av0, .inl (.int x3), .inl (.int x4), .inl (.int x5)], [], h) (rc x1 x3 x4 x5 h) (fE PP (3) k_X12_held 59 (fun v => [.inr (34, 0), av0, av0, .inl (.int v.1), .inl (.int v.2), av0])))  (h : AH) : Sim PP (3) k_X12_held (14, [.inr (34, 0), .inl (.int x1), av0, .inl (.int x3), .inl (.int x4), .inl (.int x5)], [], h) (b_X12_held_14 rc x1 x3 x4 x5 h) (fE PP (3) k_X12_held 59 (fun v => [.inr (34, 0), av0, av0, .inl (.int v.1), .inl (.int v.2), av0])) := by
  unfold b_X12_held_14
  refine S_grd 5 (19, [.inr (34, 0), .inl (.int x1), av0, .inl (.int x3), .inl (.int x4), .inl (.int x5)], [.inl (.int (h.1 36 0 x1.toNatClampNeg)), .inl (.int x5)], h) rfl (fun _ => ?_)
  refine S_br 1 59 20 [.inr (34, 0), .inl (.int x1), av0, .inl (.int x3), .inl (.int x4), .inl (.int x5)] [] h rfl (fun _ => ?_) (fun _ => ?_)
  · exact S_ex (x3, x4) (fun v => [.inr (34, 0), av0, av0, .inl (.int v.1), .inl (.int v.2), av0]) rfl
  · refine S_gn 4 (c := (2 : Int32) = 0) (24, [.inr (34, 0), .inl (.int x1), av0, .inl (.int x3), .inl (.int x4), .inl (.int x5)], [.inl (.int (x5 - x5 / (2 : Int32) * (2 : Int32))), .inl (.int x3)], h) rfl (by decide) ?_
    refine S_br 1 25 32 [.inr (34, 0), .inl (.int x1), av0, .inl (.int x3), .inl (.int x4), .inl (.int x5)] [.inl (.int x3)] h rfl (fun _ => ?_) (fun _ => ?_)
    · refine S_di 4 29 168 0 [.inr (34, 0), .inl (.int x1), av0, .inl (.int x3), .inl (.int x4), .inl (.int x5)] [.inl (.int x5), .inl (.int x1), .inr (34, 0), .inl (.int (1 : Int32)), .inl (.int x3)] [.inr (34, 0), .inl (.int x1), .inl (.int x5)] [.inr (34, 0), .inl (.int x1), av0, .inl (.int x3), .inl (.int x4), .inl (.int x5)] [.inl (.int (1 : Int32)), .inl (.int x3)] h rfl rfl pp_168 (by decide) (s_X12_rowAt x1 x5 h) (fun y1 h2 => ?_)
      refine S_gn 8 (c := (2 : Int32) = 0) (45, [.inr (34, 0), .inl (.int x1), av0, .inl (.int (x3 ||| ((1 : Int32) <<< (y1 &&& 31)))), .inl (.int x4), .inl (.int x5)], [.inl (.int (x5 - x5 / (2 : Int32) * (2 : Int32))), .inl (.int x4)], h2) rfl (by decide) ?_
      refine S_br 2 47 54 [.inr (34, 0), .inl (.int x1), av0, .inl (.int (x3 ||| ((1 : Int32) <<< (y1 &&& 31)))), .inl (.int x4), .inl (.int x5)] [.inl (.int x4)] h2 rfl (fun _ => ?_) (fun _ => ?_)
      · refine S_di 4 51 168 0 [.inr (34, 0), .inl (.int x1), av0, .inl (.int (x3 ||| ((1 : Int32) <<< (y1 &&& 31)))), .inl (.int x4), .inl (.int x5)] [.inl (.int x5), .inl (.int x1), .inr (34, 0), .inl (.int (1 : Int32)), .inl (.int x4)] [.inr (34, 0), .inl (.int x1), .inl (.int x5)] [.inr (34, 0), .inl (.int x1), av0, .inl (.int (x3 ||| ((1 : Int32) <<< (y1 &&& 31)))), .inl (.int x4), .inl (.int x5)] [.inl (.int (1 : Int32)), .inl (.int x4)] h2 rfl rfl pp_168 (by decide) (s_X12_rowAt x1 x5 h2) (fun y3 h4 => ?_)
        refine S_blk 6 (14, [.inr (34, 0), .inl (.int x1), av0, .inl (.int (x3 ||| ((1 : Int32) <<< (y1 &&& 31)))), .inl (.int (x4 ||| ((1 : Int32) <<< (y3 &&& 31)))), .inl (.int (x5 + (1 : Int32)))], [], h4) rfl ?_
        refine S_nrm [.inr (34, 0), .inl (.int x1), av0, .inl (.int (x3 ||| ((1 : Int32) <<< (y1 &&& 31)))), .inl (.int (x4 ||| ((1 : Int32) <<< (y3 &&& 31)))), .inl (.int (x5 + (1 : Int32)))] rfl ?_
        exact hrc (x3 ||| ((1 : Int32) <<< (y1 &&& 31))) (x4 ||| ((1 : Int32) <<< (y3 &&& 31))) (x5 + (1 : Int32)) h4
      · refine S_blk 5 (14, [.inr (34, 0), .inl (.int x1), av0, .inl (.int (x3 ||| ((1 : Int32) <<< (y1 &&& 31)))), .inl (.int (x4 ||| (0 : Int32))), .inl (.int (x5 + (1 : Int32)))], [], h2) rfl ?_
        refine S_nrm [.inr (34, 0), .inl (.int x1), av0, .inl (.int (x3 ||| ((1 : Int32) <<< (y1 &&& 31)))), .inl (.int (x4 ||| (0 : Int32))), .inl (.int (x5 + (1 : Int32)))] rfl ?_
        exact hrc (x3 ||| ((1 : Int32) <<< (y1 &&& 31))) (x4 ||| (0 : Int32)) (x5 + (1 : Int32)) h2
    · refine S_di 5 37 168 0 [.inr (34, 0), .inl (.int x1), av0, .inl (.int x3), .inl (.int x4), .inl (.int x5)] [.inl (.int x5), .inl (.int x1), .inr (34, 0), .inr (43, 0), .inl (.int x3)] [.inr (34, 0), .inl (.int x1), .inl (.int x5)] [.inr (34, 0), .inl (.int x1), av0, .inl (.int x3), .inl (.int x4), .inl (.int x5)] [.inr (43, 0), .inl (.int x3)] h rfl rfl pp_168 (by decide) (s_X12_rowAt x1 x5 h) (fun y5 h6 => ?_)
      refine S_grd 1 (39, [.inr (34, 0), .inl (.int x1), av0, .inl (.int x3), .inl (.int x4), .inl (.int x5)], [.inl (.int (h6.1 43 0 y5.toNatClampNeg)), .inl (.int x3)], h6) rfl (fun _ => ?_)
      refine S_gn 6 (c := (2 : Int32) = 0) (45, [.inr (34, 0), .inl (.int x1), av0, .inl (.int (x3 ||| (h6.1 43 0 y5.toNatClampNeg))), .inl (.int x4), .inl (.int x5)], [.inl (.int (x5 - x5 / (2 : Int32) * (2 : Int32))), .inl (.int x4)], h6) rfl (by decide) ?_
      refine S_br 2 47 54 [.inr (34, 0), .inl (.int x1), av0, .inl (.int (x3 ||| (h6.1 43 0 y5.toNatClampNeg))), .inl (.int x4), .inl (.int x5)] [.inl (.int x4)] h6 rfl (fun _ => ?_) (fun _ => ?_)
      · refine S_di 4 51 168 0 [.inr (34, 0), .inl (.int x1), av0, .inl (.int (x3 ||| (h6.1 43 0 y5.toNatClampNeg))), .inl (.int x4), .inl (.int x5)] [.inl (.int x5), .inl (.int x1), .inr (34, 0), .inl (.int (1 : Int32)), .inl (.int x4)] [.inr (34, 0), .inl (.int x1), .inl (.int x5)] [.inr (34, 0), .inl (.int x1), av0, .inl (.int (x3 ||| (h6.1 43 0 y5.toNatClampNeg))), .inl (.int x4), .inl (.int x5)] [.inl (.int (1 : Int32)), .inl (.int x4)] h6 rfl rfl pp_168 (by decide) (s_X12_rowAt x1 x5 h6) (fun y7 h8 => ?_)
        refine S_blk 6 (14, [.inr (34, 0), .inl (.int x1), av0, .inl (.int (x3 ||| (h6.1 43 0 y5.toNatClampNeg))), .inl (.int (x4 ||| ((1 : Int32) <<< (y7 &&& 31)))), .inl (.int (x5 + (1 : Int32)))], [], h8) rfl ?_
        refine S_nrm [.inr (34, 0), .inl (.int x1), av0, .inl (.int (x3 ||| (h6.1 43 0 y5.toNatClampNeg))), .inl (.int (x4 ||| ((1 : Int32) <<< (y7 &&& 31)))), .inl (.int (x5 + (1 : Int32)))] rfl ?_
        exact hrc (x3 ||| (h6.1 43 0 y5.toNatClampNeg)) (x4 ||| ((1 : Int32) <<< (y7 &&& 31))) (x5 + (1 : Int32)) h8
      · refine S_blk 5 (14, [.inr (34, 0), .inl (.int x1), av0, .inl (.int (x3 ||| (h6.1 43 0 y5.toNatClampNeg))), .inl (.int (x4 ||| (0 : Int32))), .inl (.int (x5 + (1 : Int32)))], [], h6) rfl ?_
        refine S_nrm [.inr (34, 0), .inl (.int x1), av0, .inl (.int (x3 ||| (h6.1 43 0 y5.toNatClampNeg))), .inl (.int (x4 ||| (0 : Int32))), .inl (.int (x5 + (1 : Int32)))] rfl ?_
        exact hrc (x3 ||| (h6.1 43 0 y5.toNatClampNeg)) (x4 ||| (0 : Int32)) (x5 + (1 : Int32)) h6
theorem sl_X12_held_14    (x1 : Int32) : ∀ (F : Nat) (x3 : Int32) (x4 : Int32) (x5 : Int32) (h : AH), Sim PP (3) k_X12_held (14, [.inr (34, 0), .inl (.int x1), av0, .inl (.int x3), .inl (.int x4), .inl (.int x5)], [], h) (l_X12_held_14 F x1 x3 x4 x5 h) (fE PP (3) k_X12_held 59 (fun v => [.inr (34, 0), av0, av0, .inl (.int v.1), .inl (.int v.2), av0])) := by
  intro F
  induction F with
  | zero => intro x3 x4 x5 h; exact S_none
  | succ F ih => intro x3 x4 x5 h; exact sb_X12_held_14 (l_X12_held_14 F) x1 x3 x4 x5 ih h
theorem sc_X12_held_59    (x3 : Int32) (x4 : Int32)  (h : AH) : Sim PP (3) k_X12_held (59, [.inr (34, 0), av0, av0, .inl (.int x3), .inl (.int x4), av0], [], h) (c_X12_held_59  x3 x4 h) fI := by
  unfold c_X12_held_59
  refine S_di 3 62 191 0 [.inr (34, 0), av0, av0, .inl (.int x3), .inl (.int x4), av0] [.inr (34, 0), .inr (34, 0), .inr (34, 0)] [.inr (34, 0)] [.inr (34, 0), av0, av0, .inl (.int x3), .inl (.int x4), av0] [.inr (34, 0), .inr (34, 0)] h rfl rfl pp_191 (by decide) (s_X12_allClaims  h) (fun y1 h2 => ?_)
  refine S_di 1 64 201 1 [.inr (34, 0), av0, av0, .inl (.int x3), .inl (.int x4), av0] [.inl (.int x4), .inl (.int y1), .inr (34, 0), .inr (34, 0)] [.inr (34, 0), .inl (.int y1), .inl (.int x4), av0, av0, av0, av0] [.inr (34, 0), av0, av0, .inl (.int x3), .inl (.int x4), av0] [.inr (34, 0)] h2 rfl rfl pp_201 (by decide) (s_X12_standing y1 x4 h2) (fun y3 h4 => ?_)
  refine S_di 1 66 162 0 [.inr (34, 0), av0, av0, .inl (.int x3), .inl (.int x4), av0] [.inl (.int x3), .inl (.int y3), .inr (34, 0)] [.inr (34, 0), .inl (.int y3), .inl (.int x3)] [.inr (34, 0), av0, av0, .inl (.int x3), .inl (.int x4), av0] [] h4 rfl rfl pp_162 (by decide) (s_X12_tells y3 x3 h4) (fun y5 h6 => ?_)
  exact S_ri 0 (67, [.inr (34, 0), av0, av0, .inl (.int x3), .inl (.int x4), av0], [.inl (.int y5)], h6) rfl rfl
theorem s_X12_held (x1 : Int32) (h : AH) : Sim PP (3) k_X12_held (0, [.inr (34, 0), .inl (.int x1), av0, av0, av0, av0], [], h) (f_X12_held x1 h) fI := by
  unfold f_X12_held
  refine S_di 2 2 256 2 [.inr (34, 0), .inl (.int x1), av0, av0, av0, av0] [.inl (.int x1), .inr (34, 0)] [.inr (34, 0), .inl (.int x1), av0, av0] [.inr (34, 0), .inl (.int x1), av0, av0, av0, av0] [] h rfl rfl pp_256 (by decide) (s_X12_needTold x1 h) (fun y1 h2 => ?_)
  refine S_br 3 8 6 [.inr (34, 0), .inl (.int x1), .inl (.int y1), av0, av0, av0] [] h2 rfl (fun _ => ?_) (fun _ => ?_)
  · refine S_blk 6 (14, [.inr (34, 0), .inl (.int x1), .inl (.int y1), .inl (.int (0 : Int32)), .inl (.int (0 : Int32)), .inl (.int (0 : Int32))], [], h2) rfl ?_
    refine S_nrm [.inr (34, 0), .inl (.int x1), av0, .inl (.int (0 : Int32)), .inl (.int (0 : Int32)), .inl (.int (0 : Int32))] rfl ?_
    refine S_lp 59 (fun v => [.inr (34, 0), av0, av0, .inl (.int v.1), .inl (.int v.2), av0]) (sl_X12_held_14 x1 FU (0 : Int32) (0 : Int32) (0 : Int32) h2) (fun v h => ?_)
    exact sc_X12_held_59 v.1 v.2 h
  · exact S_ri 1 (7, [.inr (34, 0), .inl (.int x1), .inl (.int y1), av0, av0, av0], [.inl (.int y1)], h2) rfl rfl
theorem sb_X8_liesIn_7  (rc : Nat → Int32 → Int32 → AH → Option (Int32 × AH)) (r1 : Nat) (x2 : Int32) (x3 : Int32) (hrc : ∀ (x2 : Int32) (x3 : Int32) (h : AH), Sim PP (0) k_X8_liesIn (7, [.inr (28, 0), .inr (2, r1), .inl (.int x2), .inl (.int x3)], [], h) (rc r1 x2 x3 h) (fE PP (0) k_X8_liesIn 39 (fun v => [av0, av0, .inl (.int v), av0])))  (h : AH) : Sim PP (0) k_X8_liesIn (7, [.inr (28, 0), .inr (2, r1), .inl (.int x2), .inl (.int x3)], [], h) (b_X8_liesIn_7 rc r1 x2 x3 h) (fE PP (0) k_X8_liesIn 39 (fun v => [av0, av0, .inl (.int v), av0])) := by
  unfold b_X8_liesIn_7
  refine S_br 4 39 11 [.inr (28, 0), .inr (2, r1), .inl (.int x2), .inl (.int x3)] [] h rfl (fun _ => ?_) (fun _ => ?_)
  · exact S_ex x2 (fun v => [av0, av0, .inl (.int v), av0]) rfl
  · refine S_grd 7 (18, [.inr (28, 0), .inr (2, r1), .inl (.int x2), .inl (.int x3)], [.inl (.int (h.1 3 r1 x3.toNatClampNeg)), .inr (15, 0)], h) rfl (fun _ => ?_)
    refine S_grd 1 (19, [.inr (28, 0), .inr (2, r1), .inl (.int x2), .inl (.int x3)], [.inl (.int (h.1 15 0 (h.1 3 r1 x3.toNatClampNeg).toNatClampNeg))], h) rfl (fun _ => ?_)
    refine S_grd 6 (25, [.inr (28, 0), .inr (2, r1), .inl (.int x2), .inl (.int x3)], [.inl (.int (h.1 3 r1 (x3 - (1 : Int32)).toNatClampNeg)), .inl (.int (h.1 15 0 (h.1 3 r1 x3.toNatClampNeg).toNatClampNeg))], h) rfl (fun _ => ?_)
    refine S_br 1 37 26 [.inr (28, 0), .inr (2, r1), .inl (.int x2), .inl (.int x3)] [] h rfl (fun _ => ?_) (fun _ => ?_)
    · refine S_blk 2 (7, [.inr (28, 0), .inr (2, r1), .inl (.int x2), .inl (.int (x3 + (2 : Int32)))], [], h) rfl ?_
      refine S_nrm [.inr (28, 0), .inr (2, r1), .inl (.int x2), .inl (.int (x3 + (2 : Int32)))] rfl ?_
      exact hrc x2 (x3 + (2 : Int32)) h
    · refine S_br 3 29 33 [.inr (28, 0), .inr (2, r1), .inl (.int x2), .inl (.int x3)] [.inr (28, 0)] h rfl (fun _ => ?_) (fun _ => ?_)
      · refine S_gn 3 (c := (2 : Int32) = 0) (32, [.inr (28, 0), .inr (2, r1), .inl (.int x2), .inl (.int x3)], [.inl (.int (x3 / (2 : Int32))), .inr (28, 0)], h) rfl (by decide) ?_
        refine S_blk 5 (7, [.inr (28, 0), .inr (2, r1), .inl (.int (x2 + (1 : Int32))), .inl (.int (x3 + (2 : Int32)))], [], (hsI h 28 0 4 (x3 / (2 : Int32)))) rfl ?_
        refine S_nrm [.inr (28, 0), .inr (2, r1), .inl (.int (x2 + (1 : Int32))), .inl (.int (x3 + (2 : Int32)))] rfl ?_
        exact hrc (x2 + (1 : Int32)) (x3 + (2 : Int32)) (hsI h 28 0 4 (x3 / (2 : Int32)))
      · refine S_blk 6 (7, [.inr (28, 0), .inr (2, r1), .inl (.int (x2 + (1 : Int32))), .inl (.int (x3 + (2 : Int32)))], [], (hsI h 28 0 4 (h.1 28 0 4))) rfl ?_
        refine S_nrm [.inr (28, 0), .inr (2, r1), .inl (.int (x2 + (1 : Int32))), .inl (.int (x3 + (2 : Int32)))] rfl ?_
        exact hrc (x2 + (1 : Int32)) (x3 + (2 : Int32)) (hsI h 28 0 4 (h.1 28 0 4))
theorem sl_X8_liesIn_7    (r1 : Nat) : ∀ (F : Nat) (x2 : Int32) (x3 : Int32) (h : AH), Sim PP (0) k_X8_liesIn (7, [.inr (28, 0), .inr (2, r1), .inl (.int x2), .inl (.int x3)], [], h) (l_X8_liesIn_7 F r1 x2 x3 h) (fE PP (0) k_X8_liesIn 39 (fun v => [av0, av0, .inl (.int v), av0])) := by
  intro F
  induction F with
  | zero => intro x2 x3 h; exact S_none
  | succ F ih => intro x2 x3 h; exact sb_X8_liesIn_7 (l_X8_liesIn_7 F) r1 x2 x3 ih h
theorem sc_X8_liesIn_39    (x2 : Int32)  (h : AH) : Sim PP (0) k_X8_liesIn (39, [av0, av0, .inl (.int x2), av0], [], h) (c_X8_liesIn_39  x2 h) fI := by
  unfold c_X8_liesIn_39
  exact S_ri 1 (40, [av0, av0, .inl (.int x2), av0], [.inl (.int x2)], h) rfl rfl
theorem s_X8_liesIn (r1 : Nat) (h : AH) : Sim PP (0) k_X8_liesIn (0, [.inr (28, 0), .inr (2, r1), av0, av0], [], h) (f_X8_liesIn r1 h) fI := by
  unfold f_X8_liesIn
  refine S_blk 7 (7, [.inr (28, 0), .inr (2, r1), .inl (.int (0 : Int32)), .inl (.int (1 : Int32))], [], (hsI h 28 0 4 (-9 : Int32))) rfl ?_
  refine S_nrm [.inr (28, 0), .inr (2, r1), .inl (.int (0 : Int32)), .inl (.int (1 : Int32))] rfl ?_
  refine S_lp 39 (fun v => [av0, av0, .inl (.int v), av0]) (sl_X8_liesIn_7 r1 FU (0 : Int32) (1 : Int32) (hsI h 28 0 4 (-9 : Int32))) (fun v h => ?_)
  exact sc_X8_liesIn_39 v h
theorem s_X11_lied (x1 : Int32) (h : AH) : Sim PP (2) k_X11_lied (0, [.inr (0, 0), .inl (.int x1), av0, av0], [], h) (f_X11_lied x1 h) fI := by
  unfold f_X11_lied
  refine S_di 2 2 149 1 [.inr (0, 0), .inl (.int x1), av0, av0] [.inl (.int x1), .inr (0, 0)] [.inr (0, 0), .inl (.int x1), av0, av0, av0] [.inr (0, 0), .inl (.int x1), av0, av0] [] h rfl rfl pp_149 (by decide) (s_X11_refusalOfTale x1 h) (fun y1 h2 => ?_)
  refine S_br 3 8 6 [.inr (0, 0), .inl (.int x1), .inl (.int y1), av0] [] h2 rfl (fun _ => ?_) (fun _ => ?_)
  · refine S_grd 6 (14, [.inr (0, 0), .inl (.int x1), .inl (.int y1), av0], [.inr (2, (x1.toNatClampNeg)), .inr (28, 0)], h2) rfl (fun _ => ?_)
    refine S_di 0 14 66 0 [.inr (0, 0), .inl (.int x1), .inl (.int y1), av0] [.inr (2, (x1.toNatClampNeg)), .inr (28, 0)] [.inr (28, 0), .inr (2, (x1.toNatClampNeg)), av0, av0] [.inr (0, 0), .inl (.int x1), .inl (.int y1), av0] [] h2 rfl rfl pp_66 (by decide) (s_X8_liesIn (x1.toNatClampNeg) h2) (fun y3 h4 => ?_)
    exact S_ri 7 (22, [.inr (0, 0), .inl (.int x1), .inl (.int y1), .inl (.int y3)], [.inl (.int y3)], (hsI h4 0 0 14 (h4.1 28 0 4))) rfl rfl
  · exact S_ri 1 (7, [.inr (0, 0), .inl (.int x1), .inl (.int y1), av0], [.inl (.int y1)], h2) rfl rfl
theorem sb_X12_lied_14  (rc : Int32 → Int32 → Int32 → Int32 → AH → Option ((Int32 × Int32) × AH)) (x1 : Int32) (x3 : Int32) (x4 : Int32) (x5 : Int32) (hrc : ∀ (x3 : Int32) (x4 : Int32) (x5 : Int32) (h : AH), Sim PP (3) k_X12_lied (14, [.inr (34, 0), .inl (.int x1), av0, .inl (.int x3), .inl (.int x4), .inl (.int x5), av0], [], h) (rc x1 x3 x4 x5 h) (fE PP (3) k_X12_lied 58 (fun v => [.inr (34, 0), av0, av0, .inl (.int v.1), .inl (.int v.2), av0, av0])))  (h : AH) : Sim PP (3) k_X12_lied (14, [.inr (34, 0), .inl (.int x1), av0, .inl (.int x3), .inl (.int x4), .inl (.int x5), av0], [], h) (b_X12_lied_14 rc x1 x3 x4 x5 h) (fE PP (3) k_X12_lied 58 (fun v => [.inr (34, 0), av0, av0, .inl (.int v.1), .inl (.int v.2), av0, av0])) := by
  unfold b_X12_lied_14
  refine S_grd 5 (19, [.inr (34, 0), .inl (.int x1), av0, .inl (.int x3), .inl (.int x4), .inl (.int x5), av0], [.inl (.int (h.1 36 0 x1.toNatClampNeg)), .inl (.int x5)], h) rfl (fun _ => ?_)
  refine S_br 1 58 20 [.inr (34, 0), .inl (.int x1), av0, .inl (.int x3), .inl (.int x4), .inl (.int x5), av0] [] h rfl (fun _ => ?_) (fun _ => ?_)
  · exact S_ex (x3, x4) (fun v => [.inr (34, 0), av0, av0, .inl (.int v.1), .inl (.int v.2), av0, av0]) rfl
  · refine S_di 5 25 168 0 [.inr (34, 0), .inl (.int x1), av0, .inl (.int x3), .inl (.int x4), .inl (.int x5), av0] [.inl (.int x5), .inl (.int x1), .inr (34, 0), .inr (42, 0)] [.inr (34, 0), .inl (.int x1), .inl (.int x5)] [.inr (34, 0), .inl (.int x1), av0, .inl (.int x3), .inl (.int x4), .inl (.int x5), av0] [.inr (42, 0)] h rfl rfl pp_168 (by decide) (s_X12_rowAt x1 x5 h) (fun y1 h2 => ?_)
    refine S_grd 1 (27, [.inr (34, 0), .inl (.int x1), av0, .inl (.int x3), .inl (.int x4), .inl (.int x5), av0], [.inl (.int (h2.1 42 0 y1.toNatClampNeg))], h2) rfl (fun _ => ?_)
    refine S_di 5 32 168 0 [.inr (34, 0), .inl (.int x1), av0, .inl (.int x3), .inl (.int x4), .inl (.int x5), av0] [.inl (.int (x5 - (1 : Int32))), .inl (.int x1), .inr (34, 0), .inl (.int (h2.1 42 0 y1.toNatClampNeg))] [.inr (34, 0), .inl (.int x1), .inl (.int (x5 - (1 : Int32)))] [.inr (34, 0), .inl (.int x1), av0, .inl (.int x3), .inl (.int x4), .inl (.int x5), av0] [.inl (.int (h2.1 42 0 y1.toNatClampNeg))] h2 rfl rfl pp_168 (by decide) (s_X12_rowAt x1 (x5 - (1 : Int32)) h2) (fun y3 h4 => ?_)
    refine S_br 1 36 34 [.inr (34, 0), .inl (.int x1), av0, .inl (.int x3), .inl (.int x4), .inl (.int x5), av0] [] h4 rfl (fun _ => ?_) (fun _ => ?_)
    · refine S_bt 4 (c := (0 : Int32) = 0) 46 40 [.inr (34, 0), .inl (.int x1), av0, .inl (.int x3), .inl (.int x4), .inl (.int x5), .inl (.int (0 : Int32))] [] h4 rfl (by decide) ?_
      refine S_bt 5 (c := (0 : Int32) = 0) 53 51 [.inr (34, 0), .inl (.int x1), av0, .inl (.int x3), .inl (.int x4), .inl (.int x5), .inl (.int (0 : Int32))] [.inl (.int x3)] h4 rfl (by decide) ?_
      refine S_blk 5 (14, [.inr (34, 0), .inl (.int x1), av0, .inl (.int (x3 + (0 : Int32))), .inl (.int x4), .inl (.int (x5 + (2 : Int32))), .inl (.int (0 : Int32))], [], h4) rfl ?_
      refine S_nrm [.inr (34, 0), .inl (.int x1), av0, .inl (.int (x3 + (0 : Int32))), .inl (.int x4), .inl (.int (x5 + (2 : Int32))), av0] rfl ?_
      exact hrc (x3 + (0 : Int32)) x4 (x5 + (2 : Int32)) h4
    · refine S_bf 5 (c := (1 : Int32) = 0) 46 40 [.inr (34, 0), .inl (.int x1), av0, .inl (.int x3), .inl (.int x4), .inl (.int x5), .inl (.int (1 : Int32))] [] h4 rfl (by decide) ?_
      refine S_br 2 42 46 [.inr (34, 0), .inl (.int x1), av0, .inl (.int x3), .inl (.int x4), .inl (.int x5), .inl (.int (1 : Int32))] [] h4 rfl (fun _ => ?_) (fun _ => ?_)
      · refine S_gn 3 (c := (2 : Int32) = 0) (45, [.inr (34, 0), .inl (.int x1), av0, .inl (.int x3), .inl (.int x4), .inl (.int x5), .inl (.int (1 : Int32))], [.inl (.int (x5 / (2 : Int32)))], h4) rfl (by decide) ?_
        refine S_bf 5 (c := (1 : Int32) = 0) 53 51 [.inr (34, 0), .inl (.int x1), av0, .inl (.int x3), .inl (.int (x5 / (2 : Int32))), .inl (.int x5), .inl (.int (1 : Int32))] [.inl (.int x3)] h4 rfl (by decide) ?_
        refine S_blk 6 (14, [.inr (34, 0), .inl (.int x1), av0, .inl (.int (x3 + (1 : Int32))), .inl (.int (x5 / (2 : Int32))), .inl (.int (x5 + (2 : Int32))), .inl (.int (1 : Int32))], [], h4) rfl ?_
        refine S_nrm [.inr (34, 0), .inl (.int x1), av0, .inl (.int (x3 + (1 : Int32))), .inl (.int (x5 / (2 : Int32))), .inl (.int (x5 + (2 : Int32))), av0] rfl ?_
        exact hrc (x3 + (1 : Int32)) (x5 / (2 : Int32)) (x5 + (2 : Int32)) h4
      · refine S_bf 5 (c := (1 : Int32) = 0) 53 51 [.inr (34, 0), .inl (.int x1), av0, .inl (.int x3), .inl (.int x4), .inl (.int x5), .inl (.int (1 : Int32))] [.inl (.int x3)] h4 rfl (by decide) ?_
        refine S_blk 6 (14, [.inr (34, 0), .inl (.int x1), av0, .inl (.int (x3 + (1 : Int32))), .inl (.int x4), .inl (.int (x5 + (2 : Int32))), .inl (.int (1 : Int32))], [], h4) rfl ?_
        refine S_nrm [.inr (34, 0), .inl (.int x1), av0, .inl (.int (x3 + (1 : Int32))), .inl (.int x4), .inl (.int (x5 + (2 : Int32))), av0] rfl ?_
        exact hrc (x3 + (1 : Int32)) x4 (x5 + (2 : Int32)) h4
theorem sl_X12_lied_14    (x1 : Int32) : ∀ (F : Nat) (x3 : Int32) (x4 : Int32) (x5 : Int32) (h : AH), Sim PP (3) k_X12_lied (14, [.inr (34, 0), .inl (.int x1), av0, .inl (.int x3), .inl (.int x4), .inl (.int x5), av0], [], h) (l_X12_lied_14 F x1 x3 x4 x5 h) (fE PP (3) k_X12_lied 58 (fun v => [.inr (34, 0), av0, av0, .inl (.int v.1), .inl (.int v.2), av0, av0])) := by
  intro F
  induction F with
  | zero => intro x3 x4 x5 h; exact S_none
  | succ F ih => intro x3 x4 x5 h; exact sb_X12_lied_14 (l_X12_lied_14 F) x1 x3 x4 x5 ih h
theorem sc_X12_lied_58    (x3 : Int32) (x4 : Int32)  (h : AH) : Sim PP (3) k_X12_lied (58, [.inr (34, 0), av0, av0, .inl (.int x3), .inl (.int x4), av0, av0], [], h) (c_X12_lied_58  x3 x4 h) fI := by
  unfold c_X12_lied_58
  refine S_di 3 61 162 0 [.inr (34, 0), av0, av0, .inl (.int x3), .inl (.int x4), av0, av0] [.inl (.int x3), .inl (.int x4), .inr (34, 0)] [.inr (34, 0), .inl (.int x4), .inl (.int x3)] [.inr (34, 0), av0, av0, .inl (.int x3), .inl (.int x4), av0, av0] [] h rfl rfl pp_162 (by decide) (s_X12_tells x4 x3 h) (fun y1 h2 => ?_)
  exact S_ri 0 (62, [.inr (34, 0), av0, av0, .inl (.int x3), .inl (.int x4), av0, av0], [.inl (.int y1)], h2) rfl rfl
theorem s_X12_lied (x1 : Int32) (h : AH) : Sim PP (3) k_X12_lied (0, [.inr (34, 0), .inl (.int x1), av0, av0, av0, av0, av0], [], h) (f_X12_lied x1 h) fI := by
  unfold f_X12_lied
  refine S_di 2 2 256 2 [.inr (34, 0), .inl (.int x1), av0, av0, av0, av0, av0] [.inl (.int x1), .inr (34, 0)] [.inr (34, 0), .inl (.int x1), av0, av0] [.inr (34, 0), .inl (.int x1), av0, av0, av0, av0, av0] [] h rfl rfl pp_256 (by decide) (s_X12_needTold x1 h) (fun y1 h2 => ?_)
  refine S_br 3 8 6 [.inr (34, 0), .inl (.int x1), .inl (.int y1), av0, av0, av0, av0] [] h2 rfl (fun _ => ?_) (fun _ => ?_)
  · refine S_blk 6 (14, [.inr (34, 0), .inl (.int x1), .inl (.int y1), .inl (.int (0 : Int32)), .inl (.int (-9 : Int32)), .inl (.int (1 : Int32)), av0], [], h2) rfl ?_
    refine S_nrm [.inr (34, 0), .inl (.int x1), av0, .inl (.int (0 : Int32)), .inl (.int (-9 : Int32)), .inl (.int (1 : Int32)), av0] rfl ?_
    refine S_lp 58 (fun v => [.inr (34, 0), av0, av0, .inl (.int v.1), .inl (.int v.2), av0, av0]) (sl_X12_lied_14 x1 FU (0 : Int32) (-9 : Int32) (1 : Int32) h2) (fun v h => ?_)
    exact sc_X12_lied_58 v.1 v.2 h
  · exact S_ri 1 (7, [.inr (34, 0), .inl (.int x1), .inl (.int y1), av0, av0, av0, av0], [.inl (.int y1)], h2) rfl rfl
theorem sb_J7_fill_53178_links_5  (rc : Int32 → Int32 → Int32 → AH → Option (Unit × AH)) (x1 : Int32) (x2 : Int32) (x3 : Int32) (hrc : ∀ (x2 : Int32) (h : AH), Sim PP (0) k_J7_fill_53178 (5, [.inr (32, 0), .inl (.int x1), .inl (.int x2), .inl (.int x3)], [], h) (rc x1 x2 x3 h) (fE PP (0) k_J7_fill_53178 14 (fun v => [av0, av0, av0, av0])))  (h : AH) : Sim PP (0) k_J7_fill_53178 (5, [.inr (32, 0), .inl (.int x1), .inl (.int x2), .inl (.int x3)], [], h) (b_J7_fill_53178_links_5 rc x1 x2 x3 h) (fE PP (0) k_J7_fill_53178 14 (fun v => [av0, av0, av0, av0])) := by
  unfold b_J7_fill_53178_links_5
  refine S_br 3 14 8 [.inr (32, 0), .inl (.int x1), .inl (.int x2), .inl (.int x3)] [] h rfl (fun _ => ?_) (fun _ => ?_)
  · exact S_ex () (fun v => [av0, av0, av0, av0]) rfl
  · refine S_grd 4 (12, [.inr (32, 0), .inl (.int x1), .inl (.int x2), .inl (.int x3)], [], (hsI h 32 0 x2.toNatClampNeg x1)) rfl (fun _ => ?_)
    refine S_blk 2 (5, [.inr (32, 0), .inl (.int x1), .inl (.int (x2 + (1 : Int32))), .inl (.int x3)], [], (hsI h 32 0 x2.toNatClampNeg x1)) rfl ?_
    refine S_nrm [.inr (32, 0), .inl (.int x1), .inl (.int (x2 + (1 : Int32))), .inl (.int x3)] rfl ?_
    exact hrc (x2 + (1 : Int32)) (hsI h 32 0 x2.toNatClampNeg x1)
theorem sl_J7_fill_53178_links_5    (x1 : Int32) (x3 : Int32) : ∀ (F : Nat) (x2 : Int32) (h : AH), Sim PP (0) k_J7_fill_53178 (5, [.inr (32, 0), .inl (.int x1), .inl (.int x2), .inl (.int x3)], [], h) (l_J7_fill_53178_links_5 F x1 x2 x3 h) (fE PP (0) k_J7_fill_53178 14 (fun v => [av0, av0, av0, av0])) := by
  intro F
  induction F with
  | zero => intro x2 h; exact S_none
  | succ F ih => intro x2 h; exact sb_J7_fill_53178_links_5 (l_J7_fill_53178_links_5 F) x1 x2 x3 ih h
theorem sc_J7_fill_53178_links_14      (h : AH) : Sim PP (0) k_J7_fill_53178 (14, [av0, av0, av0, av0], [], h) (c_J7_fill_53178_links_14   h) fV := by
  unfold c_J7_fill_53178_links_14
  exact S_rv 0 (14, [av0, av0, av0, av0], [], h) rfl rfl
theorem s_J7_fill_53178_links (x1 : Int32) (h : AH) : Sim PP (0) k_J7_fill_53178 (0, [.inr (32, 0), .inl (.int x1), av0, av0], [], h) (f_J7_fill_53178_links x1 h) fV := by
  unfold f_J7_fill_53178_links
  refine S_blk 5 (5, [.inr (32, 0), .inl (.int x1), .inl (.int (0 : Int32)), .inl (.int (nI 100))], [], h) rfl ?_
  refine S_nrm [.inr (32, 0), .inl (.int x1), .inl (.int (0 : Int32)), .inl (.int (nI 100))] rfl ?_
  refine S_lp 14 (fun v => [av0, av0, av0, av0]) (sl_J7_fill_53178_links_5 x1 (nI 100) FU (0 : Int32) h) (fun v h => ?_)
  exact sc_J7_fill_53178_links_14 h
theorem sb_X2_countLinks_13  (rc : Int32 → Int32 → AH → Option (Unit × AH)) (x1 : Int32) (x2 : Int32) (hrc : ∀ (x2 : Int32) (h : AH), Sim PP (2) k_X2_countLinks (13, [.inr (29, 0), .inl (.int x1), .inl (.int x2), av0], [], h) (rc x1 x2 h) (fE PP (2) k_X2_countLinks 57 (fun v => [.inr (29, 0), .inl (.int x1), av0, av0])))  (h : AH) : Sim PP (2) k_X2_countLinks (13, [.inr (29, 0), .inl (.int x1), .inl (.int x2), av0], [], h) (b_X2_countLinks_13 rc x1 x2 h) (fE PP (2) k_X2_countLinks 57 (fun v => [.inr (29, 0), .inl (.int x1), av0, av0])) := by
  unfold b_X2_countLinks_13
  refine S_br 5 57 18 [.inr (29, 0), .inl (.int x1), .inl (.int x2), av0] [] h rfl (fun _ => ?_) (fun _ => ?_)
  · exact S_ex () (fun v => [.inr (29, 0), .inl (.int x1), av0, av0]) rfl
  · refine S_di 3 21 0 1 [.inr (29, 0), .inl (.int x1), .inl (.int x2), av0] [.inl (.int x1), .inr (18, 0)] [.inr (18, 0), .inl (.int x1)] [.inr (29, 0), .inl (.int x1), .inl (.int x2), av0] [] h rfl rfl pp_0 (by decide) (s_X0_isUsable x1 h) (fun y1 h2 => ?_)
    refine S_br 1 33 23 [.inr (29, 0), .inl (.int x1), .inl (.int x2), av0] [] h2 rfl (fun _ => ?_) (fun _ => ?_)
    · refine S_grd 10 (43, [.inr (29, 0), .inl (.int x1), .inl (.int x2), .inl (.int (0 : Int32))], [.inl (.int (h2.1 15 0 x1.toNatClampNeg)), .inl (.int (10 : Int32)), .inr (32, 0)], h2) rfl (fun _ => ?_)
      refine S_grd 5 (48, [.inr (29, 0), .inl (.int x1), .inl (.int x2), .inl (.int (0 : Int32))], [.inl (.int (h2.1 32 0 (((10 : Int32) * (h2.1 15 0 x1.toNatClampNeg)) + x2).toNatClampNeg)), .inl (.int (((10 : Int32) * (h2.1 15 0 x1.toNatClampNeg)) + x2)), .inr (32, 0)], h2) rfl (fun _ => ?_)
      refine S_bt 2 (c := (0 : Int32) = 0) 52 50 [.inr (29, 0), .inl (.int x1), .inl (.int x2), .inl (.int (0 : Int32))] [.inl (.int (h2.1 32 0 (((10 : Int32) * (h2.1 15 0 x1.toNatClampNeg)) + x2).toNatClampNeg)), .inl (.int (((10 : Int32) * (h2.1 15 0 x1.toNatClampNeg)) + x2)), .inr (32, 0)] h2 rfl (by decide) ?_
      refine S_grd 3 (55, [.inr (29, 0), .inl (.int x1), .inl (.int x2), .inl (.int (0 : Int32))], [], (hsI h2 32 0 (((10 : Int32) * (h2.1 15 0 x1.toNatClampNeg)) + x2).toNatClampNeg ((h2.1 32 0 (((10 : Int32) * (h2.1 15 0 x1.toNatClampNeg)) + x2).toNatClampNeg) + (0 : Int32)))) rfl (fun _ => ?_)
      refine S_blk 2 (13, [.inr (29, 0), .inl (.int x1), .inl (.int (x2 + (1 : Int32))), .inl (.int (0 : Int32))], [], (hsI h2 32 0 (((10 : Int32) * (h2.1 15 0 x1.toNatClampNeg)) + x2).toNatClampNeg ((h2.1 32 0 (((10 : Int32) * (h2.1 15 0 x1.toNatClampNeg)) + x2).toNatClampNeg) + (0 : Int32)))) rfl ?_
      refine S_nrm [.inr (29, 0), .inl (.int x1), .inl (.int (x2 + (1 : Int32))), av0] rfl ?_
      exact hrc (x2 + (1 : Int32)) (hsI h2 32 0 (((10 : Int32) * (h2.1 15 0 x1.toNatClampNeg)) + x2).toNatClampNeg ((h2.1 32 0 (((10 : Int32) * (h2.1 15 0 x1.toNatClampNeg)) + x2).toNatClampNeg) + (0 : Int32)))
    · refine S_grd 5 (28, [.inr (29, 0), .inl (.int x1), .inl (.int x2), av0], [.inl (.int (h2.1 16 0 x1.toNatClampNeg))], h2) rfl (fun _ => ?_)
      refine S_di 1 29 138 0 [.inr (29, 0), .inl (.int x1), .inl (.int x2), av0] [.inl (.int x2), .inl (.int (h2.1 16 0 x1.toNatClampNeg))] [.inl (.int (h2.1 16 0 x1.toNatClampNeg)), .inl (.int x2)] [.inr (29, 0), .inl (.int x1), .inl (.int x2), av0] [] h2 rfl rfl pp_138 (by decide) (s_X11_has (h2.1 16 0 x1.toNatClampNeg) x2 h2) (fun y3 h4 => ?_)
      refine S_br 1 33 31 [.inr (29, 0), .inl (.int x1), .inl (.int x2), av0] [] h4 rfl (fun _ => ?_) (fun _ => ?_)
      · refine S_grd 10 (43, [.inr (29, 0), .inl (.int x1), .inl (.int x2), .inl (.int (0 : Int32))], [.inl (.int (h4.1 15 0 x1.toNatClampNeg)), .inl (.int (10 : Int32)), .inr (32, 0)], h4) rfl (fun _ => ?_)
        refine S_grd 5 (48, [.inr (29, 0), .inl (.int x1), .inl (.int x2), .inl (.int (0 : Int32))], [.inl (.int (h4.1 32 0 (((10 : Int32) * (h4.1 15 0 x1.toNatClampNeg)) + x2).toNatClampNeg)), .inl (.int (((10 : Int32) * (h4.1 15 0 x1.toNatClampNeg)) + x2)), .inr (32, 0)], h4) rfl (fun _ => ?_)
        refine S_bt 2 (c := (0 : Int32) = 0) 52 50 [.inr (29, 0), .inl (.int x1), .inl (.int x2), .inl (.int (0 : Int32))] [.inl (.int (h4.1 32 0 (((10 : Int32) * (h4.1 15 0 x1.toNatClampNeg)) + x2).toNatClampNeg)), .inl (.int (((10 : Int32) * (h4.1 15 0 x1.toNatClampNeg)) + x2)), .inr (32, 0)] h4 rfl (by decide) ?_
        refine S_grd 3 (55, [.inr (29, 0), .inl (.int x1), .inl (.int x2), .inl (.int (0 : Int32))], [], (hsI h4 32 0 (((10 : Int32) * (h4.1 15 0 x1.toNatClampNeg)) + x2).toNatClampNeg ((h4.1 32 0 (((10 : Int32) * (h4.1 15 0 x1.toNatClampNeg)) + x2).toNatClampNeg) + (0 : Int32)))) rfl (fun _ => ?_)
        refine S_blk 2 (13, [.inr (29, 0), .inl (.int x1), .inl (.int (x2 + (1 : Int32))), .inl (.int (0 : Int32))], [], (hsI h4 32 0 (((10 : Int32) * (h4.1 15 0 x1.toNatClampNeg)) + x2).toNatClampNeg ((h4.1 32 0 (((10 : Int32) * (h4.1 15 0 x1.toNatClampNeg)) + x2).toNatClampNeg) + (0 : Int32)))) rfl ?_
        refine S_nrm [.inr (29, 0), .inl (.int x1), .inl (.int (x2 + (1 : Int32))), av0] rfl ?_
        exact hrc (x2 + (1 : Int32)) (hsI h4 32 0 (((10 : Int32) * (h4.1 15 0 x1.toNatClampNeg)) + x2).toNatClampNeg ((h4.1 32 0 (((10 : Int32) * (h4.1 15 0 x1.toNatClampNeg)) + x2).toNatClampNeg) + (0 : Int32)))
      · refine S_grd 11 (43, [.inr (29, 0), .inl (.int x1), .inl (.int x2), .inl (.int (1 : Int32))], [.inl (.int (h4.1 15 0 x1.toNatClampNeg)), .inl (.int (10 : Int32)), .inr (32, 0)], h4) rfl (fun _ => ?_)
        refine S_grd 5 (48, [.inr (29, 0), .inl (.int x1), .inl (.int x2), .inl (.int (1 : Int32))], [.inl (.int (h4.1 32 0 (((10 : Int32) * (h4.1 15 0 x1.toNatClampNeg)) + x2).toNatClampNeg)), .inl (.int (((10 : Int32) * (h4.1 15 0 x1.toNatClampNeg)) + x2)), .inr (32, 0)], h4) rfl (fun _ => ?_)
        refine S_bf 2 (c := (1 : Int32) = 0) 52 50 [.inr (29, 0), .inl (.int x1), .inl (.int x2), .inl (.int (1 : Int32))] [.inl (.int (h4.1 32 0 (((10 : Int32) * (h4.1 15 0 x1.toNatClampNeg)) + x2).toNatClampNeg)), .inl (.int (((10 : Int32) * (h4.1 15 0 x1.toNatClampNeg)) + x2)), .inr (32, 0)] h4 rfl (by decide) ?_
        refine S_grd 4 (55, [.inr (29, 0), .inl (.int x1), .inl (.int x2), .inl (.int (1 : Int32))], [], (hsI h4 32 0 (((10 : Int32) * (h4.1 15 0 x1.toNatClampNeg)) + x2).toNatClampNeg ((h4.1 32 0 (((10 : Int32) * (h4.1 15 0 x1.toNatClampNeg)) + x2).toNatClampNeg) + (1 : Int32)))) rfl (fun _ => ?_)
        refine S_blk 2 (13, [.inr (29, 0), .inl (.int x1), .inl (.int (x2 + (1 : Int32))), .inl (.int (1 : Int32))], [], (hsI h4 32 0 (((10 : Int32) * (h4.1 15 0 x1.toNatClampNeg)) + x2).toNatClampNeg ((h4.1 32 0 (((10 : Int32) * (h4.1 15 0 x1.toNatClampNeg)) + x2).toNatClampNeg) + (1 : Int32)))) rfl ?_
        refine S_nrm [.inr (29, 0), .inl (.int x1), .inl (.int (x2 + (1 : Int32))), av0] rfl ?_
        exact hrc (x2 + (1 : Int32)) (hsI h4 32 0 (((10 : Int32) * (h4.1 15 0 x1.toNatClampNeg)) + x2).toNatClampNeg ((h4.1 32 0 (((10 : Int32) * (h4.1 15 0 x1.toNatClampNeg)) + x2).toNatClampNeg) + (1 : Int32)))
theorem sl_X2_countLinks_13    (x1 : Int32) : ∀ (F : Nat) (x2 : Int32) (h : AH), Sim PP (2) k_X2_countLinks (13, [.inr (29, 0), .inl (.int x1), .inl (.int x2), av0], [], h) (l_X2_countLinks_13 F x1 x2 h) (fE PP (2) k_X2_countLinks 57 (fun v => [.inr (29, 0), .inl (.int x1), av0, av0])) := by
  intro F
  induction F with
  | zero => intro x2 h; exact S_none
  | succ F ih => intro x2 h; exact sb_X2_countLinks_13 (l_X2_countLinks_13 F) x1 x2 ih h
theorem sc_X2_countLinks_57  (rc : Int32 → AH → Option (Unit × AH))  (x1 : Int32) (hrc : ∀ (x1 : Int32) (h : AH), Sim PP (2) k_X2_countLinks (6, [.inr (29, 0), .inl (.int x1), av0, av0], [], h) (rc x1 h) (fE PP (2) k_X2_countLinks 59 (fun v => [av0, av0, av0, av0]))) (h : AH) : Sim PP (2) k_X2_countLinks (57, [.inr (29, 0), .inl (.int x1), av0, av0], [], h) (c_X2_countLinks_57 rc x1 h) (fE PP (2) k_X2_countLinks 59 (fun v => [av0, av0, av0, av0])) := by
  unfold c_X2_countLinks_57
  refine S_blk 2 (6, [.inr (29, 0), .inl (.int (x1 + (1 : Int32))), av0, av0], [], h) rfl ?_
  refine S_nrm [.inr (29, 0), .inl (.int (x1 + (1 : Int32))), av0, av0] rfl ?_
  exact hrc (x1 + (1 : Int32)) h
theorem sb_X2_countLinks_6  (rc : Int32 → AH → Option (Unit × AH)) (x1 : Int32) (hrc : ∀ (x1 : Int32) (h : AH), Sim PP (2) k_X2_countLinks (6, [.inr (29, 0), .inl (.int x1), av0, av0], [], h) (rc x1 h) (fE PP (2) k_X2_countLinks 59 (fun v => [av0, av0, av0, av0])))  (h : AH) : Sim PP (2) k_X2_countLinks (6, [.inr (29, 0), .inl (.int x1), av0, av0], [], h) (b_X2_countLinks_6 rc x1 h) (fE PP (2) k_X2_countLinks 59 (fun v => [av0, av0, av0, av0])) := by
  unfold b_X2_countLinks_6
  refine S_br 5 59 11 [.inr (29, 0), .inl (.int x1), av0, av0] [] h rfl (fun _ => ?_) (fun _ => ?_)
  · exact S_ex () (fun v => [av0, av0, av0, av0]) rfl
  · refine S_blk 2 (13, [.inr (29, 0), .inl (.int x1), .inl (.int (0 : Int32)), av0], [], h) rfl ?_
    refine S_nrm [.inr (29, 0), .inl (.int x1), .inl (.int (0 : Int32)), av0] rfl ?_
    refine S_lp 57 (fun v => [.inr (29, 0), .inl (.int x1), av0, av0]) (sl_X2_countLinks_13 x1 FU (0 : Int32) h) (fun v h => ?_)
    exact sc_X2_countLinks_57 rc x1 hrc h
theorem sl_X2_countLinks_6     : ∀ (F : Nat) (x1 : Int32) (h : AH), Sim PP (2) k_X2_countLinks (6, [.inr (29, 0), .inl (.int x1), av0, av0], [], h) (l_X2_countLinks_6 F x1 h) (fE PP (2) k_X2_countLinks 59 (fun v => [av0, av0, av0, av0])) := by
  intro F
  induction F with
  | zero => intro x1 h; exact S_none
  | succ F ih => intro x1 h; exact sb_X2_countLinks_6 (l_X2_countLinks_6 F) x1 ih h
theorem sc_X2_countLinks_59      (h : AH) : Sim PP (2) k_X2_countLinks (59, [av0, av0, av0, av0], [], h) (c_X2_countLinks_59   h) fV := by
  unfold c_X2_countLinks_59
  exact S_rv 0 (59, [av0, av0, av0, av0], [], h) rfl rfl
theorem s_X2_countLinks  (h : AH) : Sim PP (2) k_X2_countLinks (0, [.inr (29, 0), av0, av0, av0], [], h) (f_X2_countLinks  h) fV := by
  unfold f_X2_countLinks
  refine S_dv 3 3 274 0 [.inr (29, 0), av0, av0, av0] [.inl (.int (0 : Int32)), .inr (32, 0)] [.inr (32, 0), .inl (.int (0 : Int32)), av0, av0] [.inr (29, 0), av0, av0, av0] [] h rfl rfl pp_274 (by decide) (s_J7_fill_53178_links (0 : Int32) h) (fun _ h2 => ?_)
  refine S_blk 2 (6, [.inr (29, 0), .inl (.int (0 : Int32)), av0, av0], [], h2) rfl ?_
  refine S_nrm [.inr (29, 0), .inl (.int (0 : Int32)), av0, av0] rfl ?_
  refine S_lp 59 (fun v => [av0, av0, av0, av0]) (sl_X2_countLinks_6  FU (0 : Int32) h2) (fun v h => ?_)
  exact sc_X2_countLinks_59 h
theorem sb_X2_rowsOn_13 (D : Nat) (R : Int32 → Int32 → Int32 → Int32 → AH → Option (Int32 × AH)) (rc : Int32 → Int32 → Int32 → Int32 → Int32 → Int32 → AH → Option (Int32 × AH)) (x1 : Int32) (x2 : Int32) (x3 : Int32) (x4 : Int32) (x5 : Int32) (x6 : Int32) (hR : ∀ (x1 : Int32) (x2 : Int32) (x3 : Int32) (x4 : Int32) (h : AH), Sim PP (D + 1) k_X2_rowsOn (0, [.inr (29, 0), .inl (.int x1), .inl (.int x2), .inl (.int x3), .inl (.int x4), av0, av0, av0], [], h) (R x1 x2 x3 x4 h) fI) (hrc : ∀ (x5 : Int32) (x6 : Int32) (h : AH), Sim PP (D + 1 + 1) k_X2_rowsOn (13, [.inr (29, 0), .inl (.int x1), .inl (.int x2), .inl (.int x3), .inl (.int x4), .inl (.int x5), .inl (.int x6), av0], [], h) (rc x1 x2 x3 x4 x5 x6 h) (fE PP (D + 1 + 1) k_X2_rowsOn 61 (fun v => [av0, av0, av0, av0, av0, .inl (.int v), av0, av0])))  (h : AH) : Sim PP (D + 1 + 1) k_X2_rowsOn (13, [.inr (29, 0), .inl (.int x1), .inl (.int x2), .inl (.int x3), .inl (.int x4), .inl (.int x5), .inl (.int x6), av0], [], h) (b_X2_rowsOn_13 R rc x1 x2 x3 x4 x5 x6 h) (fE PP (D + 1 + 1) k_X2_rowsOn 61 (fun v => [av0, av0, av0, av0, av0, .inl (.int v), av0, av0])) := by
  unfold b_X2_rowsOn_13
  refine S_br 5 61 18 [.inr (29, 0), .inl (.int x1), .inl (.int x2), .inl (.int x3), .inl (.int x4), .inl (.int x5), .inl (.int x6), av0] [] h rfl (fun _ => ?_) (fun _ => ?_)
  · exact S_ex x5 (fun v => [av0, av0, av0, av0, av0, .inl (.int v), av0, av0]) rfl
  · refine S_di 2 20 138 0 [.inr (29, 0), .inl (.int x1), .inl (.int x2), .inl (.int x3), .inl (.int x4), .inl (.int x5), .inl (.int x6), av0] [.inl (.int x6), .inl (.int x4)] [.inl (.int x4), .inl (.int x6)] [.inr (29, 0), .inl (.int x1), .inl (.int x2), .inl (.int x3), .inl (.int x4), .inl (.int x5), .inl (.int x6), av0] [] h rfl rfl pp_138 (by omega) (s_X11_has x4 x6 h) (fun y1 h2 => ?_)
    refine S_br 1 24 22 [.inr (29, 0), .inl (.int x1), .inl (.int x2), .inl (.int x3), .inl (.int x4), .inl (.int x5), .inl (.int x6), av0] [] h2 rfl (fun _ => ?_) (fun _ => ?_)
    · refine S_grd 8 (32, [.inr (29, 0), .inl (.int x1), .inl (.int x2), .inl (.int x3), .inl (.int x4), .inl (.int x5), .inl (.int x6), av0], [.inl (.int (h2.1 32 0 (((10 : Int32) * x1) + x6).toNatClampNeg))], h2) rfl (fun _ => ?_)
      refine S_br 3 59 35 [.inr (29, 0), .inl (.int x1), .inl (.int x2), .inl (.int x3), .inl (.int x4), .inl (.int x5), .inl (.int x6), .inl (.int (h2.1 32 0 (((10 : Int32) * x1) + x6).toNatClampNeg))] [] h2 rfl (fun _ => ?_) (fun _ => ?_)
      · refine S_blk 2 (13, [.inr (29, 0), .inl (.int x1), .inl (.int x2), .inl (.int x3), .inl (.int x4), .inl (.int x5), .inl (.int (x6 + (1 : Int32))), .inl (.int (h2.1 32 0 (((10 : Int32) * x1) + x6).toNatClampNeg))], [], h2) rfl ?_
        refine S_nrm [.inr (29, 0), .inl (.int x1), .inl (.int x2), .inl (.int x3), .inl (.int x4), .inl (.int x5), .inl (.int (x6 + (1 : Int32))), av0] rfl ?_
        exact hrc x5 (x6 + (1 : Int32)) h2
      · refine S_br 13 48 54 [.inr (29, 0), .inl (.int x1), .inl (.int x2), .inl (.int x3), .inl (.int x4), .inl (.int x5), .inl (.int x6), .inl (.int (h2.1 32 0 (((10 : Int32) * x1) + x6).toNatClampNeg))] [.inl (.int (x3 - (1 : Int32))), .inl (.int x2), .inl (.int x6), .inr (29, 0), .inl (.int (h2.1 32 0 (((10 : Int32) * x1) + x6).toNatClampNeg)), .inl (.int x5)] h2 rfl (fun _ => ?_) (fun _ => ?_)
        · refine S_di 6 55 20 (D + 1) [.inr (29, 0), .inl (.int x1), .inl (.int x2), .inl (.int x3), .inl (.int x4), .inl (.int x5), .inl (.int x6), .inl (.int (h2.1 32 0 (((10 : Int32) * x1) + x6).toNatClampNeg))] [.inl (.int (x4 ||| ((1 : Int32) <<< (x6 &&& 31)))), .inl (.int (x3 - (1 : Int32))), .inl (.int x2), .inl (.int x6), .inr (29, 0), .inl (.int (h2.1 32 0 (((10 : Int32) * x1) + x6).toNatClampNeg)), .inl (.int x5)] [.inr (29, 0), .inl (.int x6), .inl (.int x2), .inl (.int (x3 - (1 : Int32))), .inl (.int (x4 ||| ((1 : Int32) <<< (x6 &&& 31)))), av0, av0, av0] [.inr (29, 0), .inl (.int x1), .inl (.int x2), .inl (.int x3), .inl (.int x4), .inl (.int x5), .inl (.int x6), .inl (.int (h2.1 32 0 (((10 : Int32) * x1) + x6).toNatClampNeg))] [.inl (.int (h2.1 32 0 (((10 : Int32) * x1) + x6).toNatClampNeg)), .inl (.int x5)] h2 rfl rfl pp_20 (by omega) (hR x6 x2 (x3 - (1 : Int32)) (x4 ||| ((1 : Int32) <<< (x6 &&& 31))) h2) (fun y3 h4 => ?_)
          refine S_blk 5 (13, [.inr (29, 0), .inl (.int x1), .inl (.int x2), .inl (.int x3), .inl (.int x4), .inl (.int (x5 + ((h2.1 32 0 (((10 : Int32) * x1) + x6).toNatClampNeg) * y3))), .inl (.int (x6 + (1 : Int32))), .inl (.int (h2.1 32 0 (((10 : Int32) * x1) + x6).toNatClampNeg))], [], h4) rfl ?_
          refine S_nrm [.inr (29, 0), .inl (.int x1), .inl (.int x2), .inl (.int x3), .inl (.int x4), .inl (.int (x5 + ((h2.1 32 0 (((10 : Int32) * x1) + x6).toNatClampNeg) * y3))), .inl (.int (x6 + (1 : Int32))), av0] rfl ?_
          exact hrc (x5 + ((h2.1 32 0 (((10 : Int32) * x1) + x6).toNatClampNeg) * y3)) (x6 + (1 : Int32)) h4
        · refine S_di 1 55 20 (D + 1) [.inr (29, 0), .inl (.int x1), .inl (.int x2), .inl (.int x3), .inl (.int x4), .inl (.int x5), .inl (.int x6), .inl (.int (h2.1 32 0 (((10 : Int32) * x1) + x6).toNatClampNeg))] [.inl (.int (0 : Int32)), .inl (.int (x3 - (1 : Int32))), .inl (.int x2), .inl (.int x6), .inr (29, 0), .inl (.int (h2.1 32 0 (((10 : Int32) * x1) + x6).toNatClampNeg)), .inl (.int x5)] [.inr (29, 0), .inl (.int x6), .inl (.int x2), .inl (.int (x3 - (1 : Int32))), .inl (.int (0 : Int32)), av0, av0, av0] [.inr (29, 0), .inl (.int x1), .inl (.int x2), .inl (.int x3), .inl (.int x4), .inl (.int x5), .inl (.int x6), .inl (.int (h2.1 32 0 (((10 : Int32) * x1) + x6).toNatClampNeg))] [.inl (.int (h2.1 32 0 (((10 : Int32) * x1) + x6).toNatClampNeg)), .inl (.int x5)] h2 rfl rfl pp_20 (by omega) (hR x6 x2 (x3 - (1 : Int32)) (0 : Int32) h2) (fun y5 h6 => ?_)
          refine S_blk 5 (13, [.inr (29, 0), .inl (.int x1), .inl (.int x2), .inl (.int x3), .inl (.int x4), .inl (.int (x5 + ((h2.1 32 0 (((10 : Int32) * x1) + x6).toNatClampNeg) * y5))), .inl (.int (x6 + (1 : Int32))), .inl (.int (h2.1 32 0 (((10 : Int32) * x1) + x6).toNatClampNeg))], [], h6) rfl ?_
          refine S_nrm [.inr (29, 0), .inl (.int x1), .inl (.int x2), .inl (.int x3), .inl (.int x4), .inl (.int (x5 + ((h2.1 32 0 (((10 : Int32) * x1) + x6).toNatClampNeg) * y5))), .inl (.int (x6 + (1 : Int32))), av0] rfl ?_
          exact hrc (x5 + ((h2.1 32 0 (((10 : Int32) * x1) + x6).toNatClampNeg) * y5)) (x6 + (1 : Int32)) h6
    · refine S_bt 5 (c := (0 : Int32) ≤ 0) 59 35 [.inr (29, 0), .inl (.int x1), .inl (.int x2), .inl (.int x3), .inl (.int x4), .inl (.int x5), .inl (.int x6), .inl (.int (0 : Int32))] [] h2 rfl (by decide) ?_
      refine S_blk 2 (13, [.inr (29, 0), .inl (.int x1), .inl (.int x2), .inl (.int x3), .inl (.int x4), .inl (.int x5), .inl (.int (x6 + (1 : Int32))), .inl (.int (0 : Int32))], [], h2) rfl ?_
      refine S_nrm [.inr (29, 0), .inl (.int x1), .inl (.int x2), .inl (.int x3), .inl (.int x4), .inl (.int x5), .inl (.int (x6 + (1 : Int32))), av0] rfl ?_
      exact hrc x5 (x6 + (1 : Int32)) h2
theorem sl_X2_rowsOn_13 (D : Nat) (R : Int32 → Int32 → Int32 → Int32 → AH → Option (Int32 × AH)) (hR : ∀ (x1 : Int32) (x2 : Int32) (x3 : Int32) (x4 : Int32) (h : AH), Sim PP (D + 1) k_X2_rowsOn (0, [.inr (29, 0), .inl (.int x1), .inl (.int x2), .inl (.int x3), .inl (.int x4), av0, av0, av0], [], h) (R x1 x2 x3 x4 h) fI) (x1 : Int32) (x2 : Int32) (x3 : Int32) (x4 : Int32) : ∀ (F : Nat) (x5 : Int32) (x6 : Int32) (h : AH), Sim PP (D + 1 + 1) k_X2_rowsOn (13, [.inr (29, 0), .inl (.int x1), .inl (.int x2), .inl (.int x3), .inl (.int x4), .inl (.int x5), .inl (.int x6), av0], [], h) (l_X2_rowsOn_13 R F x1 x2 x3 x4 x5 x6 h) (fE PP (D + 1 + 1) k_X2_rowsOn 61 (fun v => [av0, av0, av0, av0, av0, .inl (.int v), av0, av0])) := by
  intro F
  induction F with
  | zero => intro x5 x6 h; exact S_none
  | succ F ih => intro x5 x6 h; exact sb_X2_rowsOn_13 D R (l_X2_rowsOn_13 R F) x1 x2 x3 x4 x5 x6 hR ih h
theorem sc_X2_rowsOn_61 (D : Nat) (R : Int32 → Int32 → Int32 → Int32 → AH → Option (Int32 × AH))  (x5 : Int32) (hR : ∀ (x1 : Int32) (x2 : Int32) (x3 : Int32) (x4 : Int32) (h : AH), Sim PP (D + 1) k_X2_rowsOn (0, [.inr (29, 0), .inl (.int x1), .inl (.int x2), .inl (.int x3), .inl (.int x4), av0, av0, av0], [], h) (R x1 x2 x3 x4 h) fI) (h : AH) : Sim PP (D + 1 + 1) k_X2_rowsOn (61, [av0, av0, av0, av0, av0, .inl (.int x5), av0, av0], [], h) (c_X2_rowsOn_61 R x5 h) fI := by
  unfold c_X2_rowsOn_61
  exact S_ri 1 (62, [av0, av0, av0, av0, av0, .inl (.int x5), av0, av0], [.inl (.int x5)], h) rfl rfl
theorem sg_X2_rowsOn (D : Nat) (R : Int32 → Int32 → Int32 → Int32 → AH → Option (Int32 × AH)) (hR : ∀ (x1 : Int32) (x2 : Int32) (x3 : Int32) (x4 : Int32) (h : AH), Sim PP (D + 1) k_X2_rowsOn (0, [.inr (29, 0), .inl (.int x1), .inl (.int x2), .inl (.int x3), .inl (.int x4), av0, av0, av0], [], h) (R x1 x2 x3 x4 h) fI) (x1 : Int32) (x2 : Int32) (x3 : Int32) (x4 : Int32) (h : AH) : Sim PP (D + 1 + 1) k_X2_rowsOn (0, [.inr (29, 0), .inl (.int x1), .inl (.int x2), .inl (.int x3), .inl (.int x4), av0, av0, av0], [], h) (g_X2_rowsOn R x1 x2 x3 x4 h) fI := by
  unfold g_X2_rowsOn
  refine S_br 2 9 2 [.inr (29, 0), .inl (.int x1), .inl (.int x2), .inl (.int x3), .inl (.int x4), av0, av0, av0] [] h rfl (fun _ => ?_) (fun _ => ?_)
  · refine S_blk 4 (13, [.inr (29, 0), .inl (.int x1), .inl (.int x2), .inl (.int x3), .inl (.int x4), .inl (.int (0 : Int32)), .inl (.int (0 : Int32)), av0], [], h) rfl ?_
    refine S_nrm [.inr (29, 0), .inl (.int x1), .inl (.int x2), .inl (.int x3), .inl (.int x4), .inl (.int (0 : Int32)), .inl (.int (0 : Int32)), av0] rfl ?_
    refine S_lp 61 (fun v => [av0, av0, av0, av0, av0, .inl (.int v), av0, av0]) (sl_X2_rowsOn_13 D R hR x1 x2 x3 x4 FU (0 : Int32) (0 : Int32) h) (fun v h => ?_)
    exact sc_X2_rowsOn_61 D R v hR h
  · refine S_br 3 5 7 [.inr (29, 0), .inl (.int x1), .inl (.int x2), .inl (.int x3), .inl (.int x4), av0, av0, av0] [] h rfl (fun _ => ?_) (fun _ => ?_)
    · exact S_ri 2 (8, [.inr (29, 0), .inl (.int x1), .inl (.int x2), .inl (.int x3), .inl (.int x4), av0, av0, av0], [.inl (.int (1 : Int32))], h) rfl rfl
    · exact S_ri 1 (8, [.inr (29, 0), .inl (.int x1), .inl (.int x2), .inl (.int x3), .inl (.int x4), av0, av0, av0], [.inl (.int (0 : Int32))], h) rfl rfl
theorem s_X2_rowsOn : ∀ (D : Nat) (x1 : Int32) (x2 : Int32) (x3 : Int32) (x4 : Int32) (h : AH), Sim PP (D + 1) k_X2_rowsOn (0, [.inr (29, 0), .inl (.int x1), .inl (.int x2), .inl (.int x3), .inl (.int x4), av0, av0, av0], [], h) (f_X2_rowsOn D x1 x2 x3 x4 h) fI := by
  intro D
  induction D with
  | zero => intro x1 x2 x3 x4 h; exact S_none
  | succ D ih => intro x1 x2 x3 x4 h; exact sg_X2_rowsOn D _ ih x1 x2 x3 x4 h
theorem s_X2_rowsBetween (x1 : Int32) (x2 : Int32) (x3 : Int32) (h : AH) : Sim PP (14) k_X2_rowsBetween (0, [.inr (29, 0), .inl (.int x1), .inl (.int x2), .inl (.int x3)], [], h) (f_X2_rowsBetween x1 x2 x3 h) fI := by
  unfold f_X2_rowsBetween
  refine S_dv 1 1 19 2 [.inr (29, 0), .inl (.int x1), .inl (.int x2), .inl (.int x3)] [.inr (29, 0)] [.inr (29, 0), av0, av0, av0] [.inr (29, 0), .inl (.int x1), .inl (.int x2), .inl (.int x3)] [] h rfl rfl pp_19 (by decide) (s_X2_countLinks  h) (fun _ h2 => ?_)
  refine S_br 9 11 15 [.inr (29, 0), .inl (.int x1), .inl (.int x2), .inl (.int x3)] [.inl (.int x3), .inl (.int x2), .inl (.int x1), .inr (29, 0)] h2 rfl (fun _ => ?_) (fun _ => ?_)
  · refine S_di 4 16 20 13 [.inr (29, 0), .inl (.int x1), .inl (.int x2), .inl (.int x3)] [.inl (.int ((1 : Int32) <<< (x1 &&& 31))), .inl (.int x3), .inl (.int x2), .inl (.int x1), .inr (29, 0)] [.inr (29, 0), .inl (.int x1), .inl (.int x2), .inl (.int x3), .inl (.int ((1 : Int32) <<< (x1 &&& 31))), av0, av0, av0] [.inr (29, 0), .inl (.int x1), .inl (.int x2), .inl (.int x3)] [] h2 rfl rfl pp_20 (by decide) (s_X2_rowsOn 12 x1 x2 x3 ((1 : Int32) <<< (x1 &&& 31)) h2) (fun y3 h4 => ?_)
    exact S_ri 0 (17, [.inr (29, 0), .inl (.int x1), .inl (.int x2), .inl (.int x3)], [.inl (.int y3)], h4) rfl rfl
  · refine S_di 1 16 20 13 [.inr (29, 0), .inl (.int x1), .inl (.int x2), .inl (.int x3)] [.inl (.int (0 : Int32)), .inl (.int x3), .inl (.int x2), .inl (.int x1), .inr (29, 0)] [.inr (29, 0), .inl (.int x1), .inl (.int x2), .inl (.int x3), .inl (.int (0 : Int32)), av0, av0, av0] [.inr (29, 0), .inl (.int x1), .inl (.int x2), .inl (.int x3)] [] h2 rfl rfl pp_20 (by decide) (s_X2_rowsOn 12 x1 x2 x3 (0 : Int32) h2) (fun y5 h6 => ?_)
    exact S_ri 0 (17, [.inr (29, 0), .inl (.int x1), .inl (.int x2), .inl (.int x3)], [.inl (.int y5)], h6) rfl rfl
theorem s_X11_fits (x1 : Int32) (x2 : Int32) (x3 : Int32) (h : AH) : Sim PP (15) k_X11_fits (0, [.inr (0, 0), .inl (.int x1), .inl (.int x2), .inl (.int x3)], [], h) (f_X11_fits x1 x2 x3 h) fI := by
  unfold f_X11_fits
  refine S_di 2 2 136 0 [.inr (0, 0), .inl (.int x1), .inl (.int x2), .inl (.int x3)] [.inl (.int x1), .inr (0, 0)] [.inr (0, 0), .inl (.int x1)] [.inr (0, 0), .inl (.int x1), .inl (.int x2), .inl (.int x3)] [] h rfl rfl pp_136 (by decide) (s_X11_isClaim x1 h) (fun y1 h2 => ?_)
  refine S_br 1 13 4 [.inr (0, 0), .inl (.int x1), .inl (.int x2), .inl (.int x3)] [] h2 rfl (fun _ => ?_) (fun _ => ?_)
  · exact S_ri 1 (14, [.inr (0, 0), .inl (.int x1), .inl (.int x2), .inl (.int x3)], [.inl (.int (-1 : Int32))], h2) rfl rfl
  · refine S_di 2 6 136 0 [.inr (0, 0), .inl (.int x1), .inl (.int x2), .inl (.int x3)] [.inl (.int x2), .inr (0, 0)] [.inr (0, 0), .inl (.int x2)] [.inr (0, 0), .inl (.int x1), .inl (.int x2), .inl (.int x3)] [] h2 rfl rfl pp_136 (by decide) (s_X11_isClaim x2 h2) (fun y3 h4 => ?_)
    refine S_br 1 13 8 [.inr (0, 0), .inl (.int x1), .inl (.int x2), .inl (.int x3)] [] h4 rfl (fun _ => ?_) (fun _ => ?_)
    · exact S_ri 1 (14, [.inr (0, 0), .inl (.int x1), .inl (.int x2), .inl (.int x3)], [.inl (.int (-1 : Int32))], h4) rfl rfl
    · refine S_br 2 13 10 [.inr (0, 0), .inl (.int x1), .inl (.int x2), .inl (.int x3)] [] h4 rfl (fun _ => ?_) (fun _ => ?_)
      · exact S_ri 1 (14, [.inr (0, 0), .inl (.int x1), .inl (.int x2), .inl (.int x3)], [.inl (.int (-1 : Int32))], h4) rfl rfl
      · refine S_br 3 15 13 [.inr (0, 0), .inl (.int x1), .inl (.int x2), .inl (.int x3)] [] h4 rfl (fun _ => ?_) (fun _ => ?_)
        · refine S_di 5 20 18 14 [.inr (0, 0), .inl (.int x1), .inl (.int x2), .inl (.int x3)] [.inl (.int x3), .inl (.int x2), .inl (.int x1), .inr (29, 0)] [.inr (29, 0), .inl (.int x1), .inl (.int x2), .inl (.int x3)] [.inr (0, 0), .inl (.int x1), .inl (.int x2), .inl (.int x3)] [] h4 rfl rfl pp_18 (by decide) (s_X2_rowsBetween x1 x2 x3 h4) (fun y5 h6 => ?_)
          exact S_ri 0 (21, [.inr (0, 0), .inl (.int x1), .inl (.int x2), .inl (.int x3)], [.inl (.int y5)], h6) rfl rfl
        · exact S_ri 1 (14, [.inr (0, 0), .inl (.int x1), .inl (.int x2), .inl (.int x3)], [.inl (.int (-1 : Int32))], h4) rfl rfl
theorem sb_X12_fitsFrom_43 (D : Nat) (R : Int32 → Int32 → Int32 → AH → Option (Int32 × AH)) (rc : Int32 → Int32 → Int32 → Int32 → Int32 → Int32 → Int32 → Int32 → AH → Option (Int32 × AH)) (x1 : Int32) (x2 : Int32) (x3 : Int32) (x4 : Int32) (x5 : Int32) (x6 : Int32) (x7 : Int32) (x8 : Int32) (hR : ∀ (x1 : Int32) (x2 : Int32) (x3 : Int32) (h : AH), Sim PP (D + 5) k_X12_fitsFrom (0, [.inr (34, 0), .inl (.int x1), .inl (.int x2), .inl (.int x3), av0, av0, av0, av0, av0], [], h) (R x1 x2 x3 h) fI) (hrc : ∀ (x5 : Int32) (x8 : Int32) (h : AH), Sim PP (D + 1 + 5) k_X12_fitsFrom (43, [.inr (34, 0), .inl (.int x1), .inl (.int x2), .inl (.int x3), .inl (.int x4), .inl (.int x5), .inl (.int x6), .inl (.int x7), .inl (.int x8)], [], h) (rc x1 x2 x3 x4 x5 x6 x7 x8 h) (fE PP (D + 1 + 5) k_X12_fitsFrom 70 (fun v => [.inr (34, 0), .inl (.int x1), .inl (.int x2), .inl (.int x3), .inl (.int x4), .inl (.int v), .inl (.int x6), av0, av0])))  (h : AH) : Sim PP (D + 1 + 5) k_X12_fitsFrom (43, [.inr (34, 0), .inl (.int x1), .inl (.int x2), .inl (.int x3), .inl (.int x4), .inl (.int x5), .inl (.int x6), .inl (.int x7), .inl (.int x8)], [], h) (b_X12_fitsFrom_43 R rc x1 x2 x3 x4 x5 x6 x7 x8 h) (fE PP (D + 1 + 5) k_X12_fitsFrom 70 (fun v => [.inr (34, 0), .inl (.int x1), .inl (.int x2), .inl (.int x3), .inl (.int x4), .inl (.int v), .inl (.int x6), av0, av0])) := by
  unfold b_X12_fitsFrom_43
  refine S_br 4 70 47 [.inr (34, 0), .inl (.int x1), .inl (.int x2), .inl (.int x3), .inl (.int x4), .inl (.int x5), .inl (.int x6), .inl (.int x7), .inl (.int x8)] [] h rfl (fun _ => ?_) (fun _ => ?_)
  · exact S_ex x5 (fun v => [.inr (34, 0), .inl (.int x1), .inl (.int x2), .inl (.int x3), .inl (.int x4), .inl (.int v), .inl (.int x6), av0, av0]) rfl
  · refine S_di 2 49 155 0 [.inr (34, 0), .inl (.int x1), .inl (.int x2), .inl (.int x3), .inl (.int x4), .inl (.int x5), .inl (.int x6), .inl (.int x7), .inl (.int x8)] [.inl (.int x8), .inl (.int x7)] [.inl (.int x7), .inl (.int x8)] [.inr (34, 0), .inl (.int x1), .inl (.int x2), .inl (.int x3), .inl (.int x4), .inl (.int x5), .inl (.int x6), .inl (.int x7), .inl (.int x8)] [] h rfl rfl pp_155 (by omega) (s_X12_has x7 x8 h) (fun y1 h2 => ?_)
    refine S_br 1 68 51 [.inr (34, 0), .inl (.int x1), .inl (.int x2), .inl (.int x3), .inl (.int x4), .inl (.int x5), .inl (.int x6), .inl (.int x7), .inl (.int x8)] [] h2 rfl (fun _ => ?_) (fun _ => ?_)
    · refine S_blk 2 (43, [.inr (34, 0), .inl (.int x1), .inl (.int x2), .inl (.int x3), .inl (.int x4), .inl (.int x5), .inl (.int x6), .inl (.int x7), .inl (.int (x8 + (1 : Int32)))], [], h2) rfl ?_
      refine S_nrm [.inr (34, 0), .inl (.int x1), .inl (.int x2), .inl (.int x3), .inl (.int x4), .inl (.int x5), .inl (.int x6), .inl (.int x7), .inl (.int (x8 + (1 : Int32)))] rfl ?_
      exact hrc x5 (x8 + (1 : Int32)) h2
    · refine S_grd 5 (56, [.inr (34, 0), .inl (.int x1), .inl (.int x2), .inl (.int x3), .inl (.int x4), .inl (.int x5), .inl (.int x6), .inl (.int x7), .inl (.int x8)], [], (hsI h2 57 0 x1.toNatClampNeg x8)) rfl (fun _ => ?_)
      refine S_di 9 65 260 (D + 5) [.inr (34, 0), .inl (.int x1), .inl (.int x2), .inl (.int x3), .inl (.int x4), .inl (.int x5), .inl (.int x6), .inl (.int x7), .inl (.int x8)] [.inl (.int x3), .inl (.int (x2 - (1 : Int32))), .inl (.int (x1 + (1 : Int32))), .inr (34, 0), .inl (.int x5)] [.inr (34, 0), .inl (.int (x1 + (1 : Int32))), .inl (.int (x2 - (1 : Int32))), .inl (.int x3), av0, av0, av0, av0, av0] [.inr (34, 0), .inl (.int x1), .inl (.int x2), .inl (.int x3), .inl (.int x4), .inl (.int x5), .inl (.int x6), .inl (.int x7), .inl (.int x8)] [.inl (.int x5)] (hsI h2 57 0 x1.toNatClampNeg x8) rfl rfl pp_260 (by omega) (hR (x1 + (1 : Int32)) (x2 - (1 : Int32)) x3 (hsI h2 57 0 x1.toNatClampNeg x8)) (fun y3 h4 => ?_)
      refine S_blk 4 (43, [.inr (34, 0), .inl (.int x1), .inl (.int x2), .inl (.int x3), .inl (.int x4), .inl (.int (x5 + y3)), .inl (.int x6), .inl (.int x7), .inl (.int (x8 + (1 : Int32)))], [], h4) rfl ?_
      refine S_nrm [.inr (34, 0), .inl (.int x1), .inl (.int x2), .inl (.int x3), .inl (.int x4), .inl (.int (x5 + y3)), .inl (.int x6), .inl (.int x7), .inl (.int (x8 + (1 : Int32)))] rfl ?_
      exact hrc (x5 + y3) (x8 + (1 : Int32)) h4
theorem sl_X12_fitsFrom_43 (D : Nat) (R : Int32 → Int32 → Int32 → AH → Option (Int32 × AH)) (hR : ∀ (x1 : Int32) (x2 : Int32) (x3 : Int32) (h : AH), Sim PP (D + 5) k_X12_fitsFrom (0, [.inr (34, 0), .inl (.int x1), .inl (.int x2), .inl (.int x3), av0, av0, av0, av0, av0], [], h) (R x1 x2 x3 h) fI) (x1 : Int32) (x2 : Int32) (x3 : Int32) (x4 : Int32) (x6 : Int32) (x7 : Int32) : ∀ (F : Nat) (x5 : Int32) (x8 : Int32) (h : AH), Sim PP (D + 1 + 5) k_X12_fitsFrom (43, [.inr (34, 0), .inl (.int x1), .inl (.int x2), .inl (.int x3), .inl (.int x4), .inl (.int x5), .inl (.int x6), .inl (.int x7), .inl (.int x8)], [], h) (l_X12_fitsFrom_43 R F x1 x2 x3 x4 x5 x6 x7 x8 h) (fE PP (D + 1 + 5) k_X12_fitsFrom 70 (fun v => [.inr (34, 0), .inl (.int x1), .inl (.int x2), .inl (.int x3), .inl (.int x4), .inl (.int v), .inl (.int x6), av0, av0])) := by
  intro F
  induction F with
  | zero => intro x5 x8 h; exact S_none
  | succ F ih => intro x5 x8 h; exact sb_X12_fitsFrom_43 D R (l_X12_fitsFrom_43 R F) x1 x2 x3 x4 x5 x6 x7 x8 hR ih h
theorem sc_X12_fitsFrom_70 (D : Nat) (R : Int32 → Int32 → Int32 → AH → Option (Int32 × AH)) (rc : Int32 → Int32 → Int32 → Int32 → Int32 → Int32 → AH → Option (Int32 × AH))  (x1 : Int32) (x2 : Int32) (x3 : Int32) (x4 : Int32) (x5 : Int32) (x6 : Int32) (hR : ∀ (x1 : Int32) (x2 : Int32) (x3 : Int32) (h : AH), Sim PP (D + 5) k_X12_fitsFrom (0, [.inr (34, 0), .inl (.int x1), .inl (.int x2), .inl (.int x3), av0, av0, av0, av0, av0], [], h) (R x1 x2 x3 h) fI) (hrc : ∀ (x5 : Int32) (x6 : Int32) (h : AH), Sim PP (D + 1 + 5) k_X12_fitsFrom (24, [.inr (34, 0), .inl (.int x1), .inl (.int x2), .inl (.int x3), .inl (.int x4), .inl (.int x5), .inl (.int x6), av0, av0], [], h) (rc x1 x2 x3 x4 x5 x6 h) (fE PP (D + 1 + 5) k_X12_fitsFrom 72 (fun v => [av0, av0, av0, av0, av0, .inl (.int v), av0, av0, av0]))) (h : AH) : Sim PP (D + 1 + 5) k_X12_fitsFrom (70, [.inr (34, 0), .inl (.int x1), .inl (.int x2), .inl (.int x3), .inl (.int x4), .inl (.int x5), .inl (.int x6), av0, av0], [], h) (c_X12_fitsFrom_70 R rc x1 x2 x3 x4 x5 x6 h) (fE PP (D + 1 + 5) k_X12_fitsFrom 72 (fun v => [av0, av0, av0, av0, av0, .inl (.int v), av0, av0, av0])) := by
  unfold c_X12_fitsFrom_70
  refine S_blk 2 (24, [.inr (34, 0), .inl (.int x1), .inl (.int x2), .inl (.int x3), .inl (.int x4), .inl (.int x5), .inl (.int (x6 + (1 : Int32))), av0, av0], [], h) rfl ?_
  refine S_nrm [.inr (34, 0), .inl (.int x1), .inl (.int x2), .inl (.int x3), .inl (.int x4), .inl (.int x5), .inl (.int (x6 + (1 : Int32))), av0, av0] rfl ?_
  exact hrc x5 (x6 + (1 : Int32)) h
theorem sb_X12_fitsFrom_24 (D : Nat) (R : Int32 → Int32 → Int32 → AH → Option (Int32 × AH)) (rc : Int32 → Int32 → Int32 → Int32 → Int32 → Int32 → AH → Option (Int32 × AH)) (x1 : Int32) (x2 : Int32) (x3 : Int32) (x4 : Int32) (x5 : Int32) (x6 : Int32) (hR : ∀ (x1 : Int32) (x2 : Int32) (x3 : Int32) (h : AH), Sim PP (D + 5) k_X12_fitsFrom (0, [.inr (34, 0), .inl (.int x1), .inl (.int x2), .inl (.int x3), av0, av0, av0, av0, av0], [], h) (R x1 x2 x3 h) fI) (hrc : ∀ (x5 : Int32) (x6 : Int32) (h : AH), Sim PP (D + 1 + 5) k_X12_fitsFrom (24, [.inr (34, 0), .inl (.int x1), .inl (.int x2), .inl (.int x3), .inl (.int x4), .inl (.int x5), .inl (.int x6), av0, av0], [], h) (rc x1 x2 x3 x4 x5 x6 h) (fE PP (D + 1 + 5) k_X12_fitsFrom 72 (fun v => [av0, av0, av0, av0, av0, .inl (.int v), av0, av0, av0])))  (h : AH) : Sim PP (D + 1 + 5) k_X12_fitsFrom (24, [.inr (34, 0), .inl (.int x1), .inl (.int x2), .inl (.int x3), .inl (.int x4), .inl (.int x5), .inl (.int x6), av0, av0], [], h) (b_X12_fitsFrom_24 R rc x1 x2 x3 x4 x5 x6 h) (fE PP (D + 1 + 5) k_X12_fitsFrom 72 (fun v => [av0, av0, av0, av0, av0, .inl (.int v), av0, av0, av0])) := by
  unfold b_X12_fitsFrom_24
  refine S_br 4 72 28 [.inr (34, 0), .inl (.int x1), .inl (.int x2), .inl (.int x3), .inl (.int x4), .inl (.int x5), .inl (.int x6), av0, av0] [] h rfl (fun _ => ?_) (fun _ => ?_)
  · exact S_ex x5 (fun v => [av0, av0, av0, av0, av0, .inl (.int v), av0, av0, av0]) rfl
  · refine S_di 2 30 155 0 [.inr (34, 0), .inl (.int x1), .inl (.int x2), .inl (.int x3), .inl (.int x4), .inl (.int x5), .inl (.int x6), av0, av0] [.inl (.int x6), .inl (.int x4)] [.inl (.int x4), .inl (.int x6)] [.inr (34, 0), .inl (.int x1), .inl (.int x2), .inl (.int x3), .inl (.int x4), .inl (.int x5), .inl (.int x6), av0, av0] [] h rfl rfl pp_155 (by omega) (s_X12_has x4 x6 h) (fun y1 h2 => ?_)
    refine S_br 1 39 32 [.inr (34, 0), .inl (.int x1), .inl (.int x2), .inl (.int x3), .inl (.int x4), .inl (.int x5), .inl (.int x6), av0, av0] [] h2 rfl (fun _ => ?_) (fun _ => ?_)
    · refine S_blk 4 (43, [.inr (34, 0), .inl (.int x1), .inl (.int x2), .inl (.int x3), .inl (.int x4), .inl (.int x5), .inl (.int x6), .inl (.int (0 : Int32)), .inl (.int (0 : Int32))], [], h2) rfl ?_
      refine S_nrm [.inr (34, 0), .inl (.int x1), .inl (.int x2), .inl (.int x3), .inl (.int x4), .inl (.int x5), .inl (.int x6), .inl (.int (0 : Int32)), .inl (.int (0 : Int32))] rfl ?_
      refine S_lp 70 (fun v => [.inr (34, 0), .inl (.int x1), .inl (.int x2), .inl (.int x3), .inl (.int x4), .inl (.int v), .inl (.int x6), av0, av0]) (sl_X12_fitsFrom_43 D R hR x1 x2 x3 x4 x6 (0 : Int32) FU x5 (0 : Int32) h2) (fun v h => ?_)
      exact sc_X12_fitsFrom_70 D R rc x1 x2 x3 x4 v x6 hR hrc h
    · refine S_di 5 37 215 0 [.inr (34, 0), .inl (.int x1), .inl (.int x2), .inl (.int x3), .inl (.int x4), .inl (.int x5), .inl (.int x6), av0, av0] [.inl (.int x1), .inr (57, 0), .inl (.int x6), .inr (34, 0)] [.inr (34, 0), .inl (.int x6), .inr (57, 0), .inl (.int x1), av0, av0] [.inr (34, 0), .inl (.int x1), .inl (.int x2), .inl (.int x3), .inl (.int x4), .inl (.int x5), .inl (.int x6), av0, av0] [] h2 rfl rfl pp_215 (by omega) (s_X12_mayAsk_m_tried x6 x1 h2) (fun y3 h4 => ?_)
      refine S_blk 4 (43, [.inr (34, 0), .inl (.int x1), .inl (.int x2), .inl (.int x3), .inl (.int x4), .inl (.int x5), .inl (.int x6), .inl (.int y3), .inl (.int (0 : Int32))], [], h4) rfl ?_
      refine S_nrm [.inr (34, 0), .inl (.int x1), .inl (.int x2), .inl (.int x3), .inl (.int x4), .inl (.int x5), .inl (.int x6), .inl (.int y3), .inl (.int (0 : Int32))] rfl ?_
      refine S_lp 70 (fun v => [.inr (34, 0), .inl (.int x1), .inl (.int x2), .inl (.int x3), .inl (.int x4), .inl (.int v), .inl (.int x6), av0, av0]) (sl_X12_fitsFrom_43 D R hR x1 x2 x3 x4 x6 y3 FU x5 (0 : Int32) h4) (fun v h => ?_)
      exact sc_X12_fitsFrom_70 D R rc x1 x2 x3 x4 v x6 hR hrc h
theorem sl_X12_fitsFrom_24 (D : Nat) (R : Int32 → Int32 → Int32 → AH → Option (Int32 × AH)) (hR : ∀ (x1 : Int32) (x2 : Int32) (x3 : Int32) (h : AH), Sim PP (D + 5) k_X12_fitsFrom (0, [.inr (34, 0), .inl (.int x1), .inl (.int x2), .inl (.int x3), av0, av0, av0, av0, av0], [], h) (R x1 x2 x3 h) fI) (x1 : Int32) (x2 : Int32) (x3 : Int32) (x4 : Int32) : ∀ (F : Nat) (x5 : Int32) (x6 : Int32) (h : AH), Sim PP (D + 1 + 5) k_X12_fitsFrom (24, [.inr (34, 0), .inl (.int x1), .inl (.int x2), .inl (.int x3), .inl (.int x4), .inl (.int x5), .inl (.int x6), av0, av0], [], h) (l_X12_fitsFrom_24 R F x1 x2 x3 x4 x5 x6 h) (fE PP (D + 1 + 5) k_X12_fitsFrom 72 (fun v => [av0, av0, av0, av0, av0, .inl (.int v), av0, av0, av0])) := by
  intro F
  induction F with
  | zero => intro x5 x6 h; exact S_none
  | succ F ih => intro x5 x6 h; exact sb_X12_fitsFrom_24 D R (l_X12_fitsFrom_24 R F) x1 x2 x3 x4 x5 x6 hR ih h
theorem sc_X12_fitsFrom_72 (D : Nat) (R : Int32 → Int32 → Int32 → AH → Option (Int32 × AH))  (x5 : Int32) (hR : ∀ (x1 : Int32) (x2 : Int32) (x3 : Int32) (h : AH), Sim PP (D + 5) k_X12_fitsFrom (0, [.inr (34, 0), .inl (.int x1), .inl (.int x2), .inl (.int x3), av0, av0, av0, av0, av0], [], h) (R x1 x2 x3 h) fI) (h : AH) : Sim PP (D + 1 + 5) k_X12_fitsFrom (72, [av0, av0, av0, av0, av0, .inl (.int x5), av0, av0, av0], [], h) (c_X12_fitsFrom_72 R x5 h) fI := by
  unfold c_X12_fitsFrom_72
  exact S_ri 1 (73, [av0, av0, av0, av0, av0, .inl (.int x5), av0, av0, av0], [.inl (.int x5)], h) rfl rfl
theorem sg_X12_fitsFrom (D : Nat) (R : Int32 → Int32 → Int32 → AH → Option (Int32 × AH)) (hR : ∀ (x1 : Int32) (x2 : Int32) (x3 : Int32) (h : AH), Sim PP (D + 5) k_X12_fitsFrom (0, [.inr (34, 0), .inl (.int x1), .inl (.int x2), .inl (.int x3), av0, av0, av0, av0, av0], [], h) (R x1 x2 x3 h) fI) (x1 : Int32) (x2 : Int32) (x3 : Int32) (h : AH) : Sim PP (D + 1 + 5) k_X12_fitsFrom (0, [.inr (34, 0), .inl (.int x1), .inl (.int x2), .inl (.int x3), av0, av0, av0, av0, av0], [], h) (g_X12_fitsFrom R x1 x2 x3 h) fI := by
  unfold g_X12_fitsFrom
  refine S_br 2 2 14 [.inr (34, 0), .inl (.int x1), .inl (.int x2), .inl (.int x3), av0, av0, av0, av0, av0] [] h rfl (fun _ => ?_) (fun _ => ?_)
  · refine S_grd 6 (8, [.inr (34, 0), .inl (.int x1), .inl (.int x2), .inl (.int x3), av0, av0, av0, av0, av0], [.inl (.int (h.1 57 0 (x1 - (1 : Int32)).toNatClampNeg))], h) rfl (fun _ => ?_)
    refine S_br 2 10 12 [.inr (34, 0), .inl (.int x1), .inl (.int x2), .inl (.int x3), av0, av0, av0, av0, av0] [] h rfl (fun _ => ?_) (fun _ => ?_)
    · exact S_ri 2 (13, [.inr (34, 0), .inl (.int x1), .inl (.int x2), .inl (.int x3), av0, av0, av0, av0, av0], [.inl (.int (1 : Int32))], h) rfl rfl
    · exact S_ri 1 (13, [.inr (34, 0), .inl (.int x1), .inl (.int x2), .inl (.int x3), av0, av0, av0, av0, av0], [.inl (.int (0 : Int32))], h) rfl rfl
  · refine S_di 4 18 217 4 [.inr (34, 0), .inl (.int x1), .inl (.int x2), .inl (.int x3), av0, av0, av0, av0, av0] [.inl (.int x1), .inr (57, 0), .inr (34, 0)] [.inr (34, 0), .inr (57, 0), .inl (.int x1), av0, av0, av0] [.inr (34, 0), .inl (.int x1), .inl (.int x2), .inl (.int x3), av0, av0, av0, av0, av0] [] h rfl rfl pp_217 (by omega) (s_X12_mayAnswer_m_tried x1 h) (fun y1 h2 => ?_)
    refine S_blk 5 (24, [.inr (34, 0), .inl (.int x1), .inl (.int x2), .inl (.int x3), .inl (.int y1), .inl (.int (0 : Int32)), .inl (.int (0 : Int32)), av0, av0], [], h2) rfl ?_
    refine S_nrm [.inr (34, 0), .inl (.int x1), .inl (.int x2), .inl (.int x3), .inl (.int y1), .inl (.int (0 : Int32)), .inl (.int (0 : Int32)), av0, av0] rfl ?_
    refine S_lp 72 (fun v => [av0, av0, av0, av0, av0, .inl (.int v), av0, av0, av0]) (sl_X12_fitsFrom_24 D R hR x1 x2 x3 y1 FU (0 : Int32) (0 : Int32) h2) (fun v h => ?_)
    exact sc_X12_fitsFrom_72 D R v hR h
theorem s_X12_fitsFrom : ∀ (D : Nat) (x1 : Int32) (x2 : Int32) (x3 : Int32) (h : AH), Sim PP (D + 5) k_X12_fitsFrom (0, [.inr (34, 0), .inl (.int x1), .inl (.int x2), .inl (.int x3), av0, av0, av0, av0, av0], [], h) (f_X12_fitsFrom D x1 x2 x3 h) fI := by
  intro D
  induction D with
  | zero => intro x1 x2 x3 h; exact S_none
  | succ D ih => intro x1 x2 x3 h; exact sg_X12_fitsFrom D _ ih x1 x2 x3 h
theorem s_X12_fits (x1 : Int32) (x2 : Int32) (x3 : Int32) (h : AH) : Sim PP (18) k_X12_fits (0, [.inr (34, 0), .inl (.int x1), .inl (.int x2), .inl (.int x3)], [], h) (f_X12_fits x1 x2 x3 h) fI := by
  unfold f_X12_fits
  refine S_di 2 2 189 1 [.inr (34, 0), .inl (.int x1), .inl (.int x2), .inl (.int x3)] [.inl (.int x1), .inr (34, 0)] [.inr (34, 0), .inl (.int x1)] [.inr (34, 0), .inl (.int x1), .inl (.int x2), .inl (.int x3)] [] h rfl rfl pp_189 (by decide) (s_X12_isClaim x1 h) (fun y1 h2 => ?_)
  refine S_br 1 13 4 [.inr (34, 0), .inl (.int x1), .inl (.int x2), .inl (.int x3)] [] h2 rfl (fun _ => ?_) (fun _ => ?_)
  · exact S_ri 1 (14, [.inr (34, 0), .inl (.int x1), .inl (.int x2), .inl (.int x3)], [.inl (.int (-1 : Int32))], h2) rfl rfl
  · refine S_di 2 6 189 1 [.inr (34, 0), .inl (.int x1), .inl (.int x2), .inl (.int x3)] [.inl (.int x2), .inr (34, 0)] [.inr (34, 0), .inl (.int x2)] [.inr (34, 0), .inl (.int x1), .inl (.int x2), .inl (.int x3)] [] h2 rfl rfl pp_189 (by decide) (s_X12_isClaim x2 h2) (fun y3 h4 => ?_)
    refine S_br 1 13 8 [.inr (34, 0), .inl (.int x1), .inl (.int x2), .inl (.int x3)] [] h4 rfl (fun _ => ?_) (fun _ => ?_)
    · exact S_ri 1 (14, [.inr (34, 0), .inl (.int x1), .inl (.int x2), .inl (.int x3)], [.inl (.int (-1 : Int32))], h4) rfl rfl
    · refine S_di 3 11 154 0 [.inr (34, 0), .inl (.int x1), .inl (.int x2), .inl (.int x3)] [.inl (.int (5 : Int32)), .inl (.int (0 : Int32)), .inl (.int x3)] [.inl (.int x3), .inl (.int (0 : Int32)), .inl (.int (5 : Int32))] [.inr (34, 0), .inl (.int x1), .inl (.int x2), .inl (.int x3)] [] h4 rfl rfl pp_154 (by decide) (s_X12_in x3 (0 : Int32) (5 : Int32) h4) (fun y5 h6 => ?_)
      refine S_br 1 13 15 [.inr (34, 0), .inl (.int x1), .inl (.int x2), .inl (.int x3)] [] h6 rfl (fun _ => ?_) (fun _ => ?_)
      · exact S_ri 1 (14, [.inr (34, 0), .inl (.int x1), .inl (.int x2), .inl (.int x3)], [.inl (.int (-1 : Int32))], h6) rfl rfl
      · refine S_gt 5 (c := inb (0 : Int32) 32 = true) (20, [.inr (34, 0), .inl (.int x1), .inl (.int x2), .inl (.int x3)], [], (hsI h6 57 0 (0 : Int32).toNatClampNeg x1)) rfl (by decide) ?_
        refine S_di 4 24 260 17 [.inr (34, 0), .inl (.int x1), .inl (.int x2), .inl (.int x3)] [.inl (.int x2), .inl (.int x3), .inl (.int (1 : Int32)), .inr (34, 0)] [.inr (34, 0), .inl (.int (1 : Int32)), .inl (.int x3), .inl (.int x2), av0, av0, av0, av0, av0] [.inr (34, 0), .inl (.int x1), .inl (.int x2), .inl (.int x3)] [] (hsI h6 57 0 (0 : Int32).toNatClampNeg x1) rfl rfl pp_260 (by decide) (s_X12_fitsFrom 12 (1 : Int32) x3 x2 (hsI h6 57 0 (0 : Int32).toNatClampNeg x1)) (fun y7 h8 => ?_)
        exact S_ri 0 (25, [.inr (34, 0), .inl (.int x1), .inl (.int x2), .inl (.int x3)], [.inl (.int y7)], h8) rfl rfl
theorem sb_X2_shareByParts_4  (rc : Int32 → Int64 → Int32 → AH → Option (Int64 × AH)) (x1 : Int32) (x2 : Int64) (x4 : Int32) (hrc : ∀ (x2 : Int64) (x4 : Int32) (h : AH), Sim PP (1) k_X2_shareByParts (4, [.inr (29, 0), .inl (.int x1), .inl (.long x2), av0, .inl (.int x4)], [], h) (rc x1 x2 x4 h) (fE PP (1) k_X2_shareByParts 28 (fun v => [av0, av0, .inl (.long v), av0, av0])))  (h : AH) : Sim PP (1) k_X2_shareByParts (4, [.inr (29, 0), .inl (.int x1), .inl (.long x2), av0, .inl (.int x4)], [], h) (b_X2_shareByParts_4 rc x1 x2 x4 h) (fE PP (1) k_X2_shareByParts 28 (fun v => [av0, av0, .inl (.long v), av0, av0])) := by
  unfold b_X2_shareByParts_4
  refine S_br 5 28 9 [.inr (29, 0), .inl (.int x1), .inl (.long x2), av0, .inl (.int x4)] [] h rfl (fun _ => ?_) (fun _ => ?_)
  · exact S_ex x2 (fun v => [av0, av0, .inl (.long v), av0, av0]) rfl
  · refine S_grd 6 (15, [.inr (29, 0), .inl (.int x1), .inl (.long x2), av0, .inl (.int x4)], [.inl (.int (h.1 16 0 x1.toNatClampNeg)), .inl (.long x2)], h) rfl (fun _ => ?_)
    refine S_di 1 16 138 0 [.inr (29, 0), .inl (.int x1), .inl (.long x2), av0, .inl (.int x4)] [.inl (.int x4), .inl (.int (h.1 16 0 x1.toNatClampNeg)), .inl (.long x2)] [.inl (.int (h.1 16 0 x1.toNatClampNeg)), .inl (.int x4)] [.inr (29, 0), .inl (.int x1), .inl (.long x2), av0, .inl (.int x4)] [.inl (.long x2)] h rfl rfl pp_138 (by decide) (s_X11_has (h.1 16 0 x1.toNatClampNeg) x4 h) (fun y1 h2 => ?_)
    refine S_br 1 23 18 [.inr (29, 0), .inl (.int x1), .inl (.long x2), av0, .inl (.int x4)] [.inl (.long x2)] h2 rfl (fun _ => ?_) (fun _ => ?_)
    · refine S_blk 5 (4, [.inr (29, 0), .inl (.int x1), .inl (.long (x2 + (0 : Int64))), av0, .inl (.int (x4 + (1 : Int32)))], [], h2) rfl ?_
      refine S_nrm [.inr (29, 0), .inl (.int x1), .inl (.long (x2 + (0 : Int64))), av0, .inl (.int (x4 + (1 : Int32)))] rfl ?_
      exact hrc (x2 + (0 : Int64)) (x4 + (1 : Int32)) h2
    · refine S_grd 4 (22, [.inr (29, 0), .inl (.int x1), .inl (.long x2), av0, .inl (.int x4)], [.inl (.long (h2.2 31 0 x4.toNatClampNeg)), .inl (.long x2)], h2) rfl (fun _ => ?_)
      refine S_blk 5 (4, [.inr (29, 0), .inl (.int x1), .inl (.long (x2 + (h2.2 31 0 x4.toNatClampNeg))), av0, .inl (.int (x4 + (1 : Int32)))], [], h2) rfl ?_
      refine S_nrm [.inr (29, 0), .inl (.int x1), .inl (.long (x2 + (h2.2 31 0 x4.toNatClampNeg))), av0, .inl (.int (x4 + (1 : Int32)))] rfl ?_
      exact hrc (x2 + (h2.2 31 0 x4.toNatClampNeg)) (x4 + (1 : Int32)) h2
theorem sl_X2_shareByParts_4    (x1 : Int32) : ∀ (F : Nat) (x2 : Int64) (x4 : Int32) (h : AH), Sim PP (1) k_X2_shareByParts (4, [.inr (29, 0), .inl (.int x1), .inl (.long x2), av0, .inl (.int x4)], [], h) (l_X2_shareByParts_4 F x1 x2 x4 h) (fE PP (1) k_X2_shareByParts 28 (fun v => [av0, av0, .inl (.long v), av0, av0])) := by
  intro F
  induction F with
  | zero => intro x2 x4 h; exact S_none
  | succ F ih => intro x2 x4 h; exact sb_X2_shareByParts_4 (l_X2_shareByParts_4 F) x1 x2 x4 ih h
theorem sc_X2_shareByParts_28    (x2 : Int64)  (h : AH) : Sim PP (1) k_X2_shareByParts (28, [av0, av0, .inl (.long x2), av0, av0], [], h) (c_X2_shareByParts_28  x2 h) fL := by
  unfold c_X2_shareByParts_28
  exact S_rl 1 (29, [av0, av0, .inl (.long x2), av0, av0], [.inl (.long x2)], h) rfl rfl
theorem s_X2_shareByParts (x1 : Int32) (h : AH) : Sim PP (1) k_X2_shareByParts (0, [.inr (29, 0), .inl (.int x1), av0, av0, av0], [], h) (f_X2_shareByParts x1 h) fL := by
  unfold f_X2_shareByParts
  refine S_blk 4 (4, [.inr (29, 0), .inl (.int x1), .inl (.long (0 : Int64)), av0, .inl (.int (0 : Int32))], [], h) rfl ?_
  refine S_nrm [.inr (29, 0), .inl (.int x1), .inl (.long (0 : Int64)), av0, .inl (.int (0 : Int32))] rfl ?_
  refine S_lp 28 (fun v => [av0, av0, .inl (.long v), av0, av0]) (sl_X2_shareByParts_4 x1 FU (0 : Int64) (0 : Int32) h) (fun v h => ?_)
  exact sc_X2_shareByParts_28 v h
theorem sb_X2_shareByReasons_12  (rc : Int32 → Int32 → Int64 → Int32 → AH → Option (Int64 × AH)) (x2 : Int32) (x3 : Int32) (x4 : Int64) (x6 : Int32) (hrc : ∀ (x4 : Int64) (x6 : Int32) (h : AH), Sim PP (3) k_X2_shareByReasons (12, [.inr (29, 0), av0, .inl (.int x2), .inl (.int x3), .inl (.long x4), av0, .inl (.int x6), av0], [], h) (rc x2 x3 x4 x6 h) (fE PP (3) k_X2_shareByReasons 45 (fun v => [av0, av0, av0, av0, .inl (.long v), av0, av0, av0])))  (h : AH) : Sim PP (3) k_X2_shareByReasons (12, [.inr (29, 0), av0, .inl (.int x2), .inl (.int x3), .inl (.long x4), av0, .inl (.int x6), av0], [], h) (b_X2_shareByReasons_12 rc x2 x3 x4 x6 h) (fE PP (3) k_X2_shareByReasons 45 (fun v => [av0, av0, av0, av0, .inl (.long v), av0, av0, av0])) := by
  unfold b_X2_shareByReasons_12
  refine S_br 5 45 17 [.inr (29, 0), av0, .inl (.int x2), .inl (.int x3), .inl (.long x4), av0, .inl (.int x6), av0] [] h rfl (fun _ => ?_) (fun _ => ?_)
  · exact S_ex x4 (fun v => [av0, av0, av0, av0, .inl (.long v), av0, av0, av0]) rfl
  · refine S_grd 6 (23, [.inr (29, 0), av0, .inl (.int x2), .inl (.int x3), .inl (.long x4), av0, .inl (.int x6), av0], [.inl (.int (h.1 16 0 x6.toNatClampNeg)), .inl (.int x3)], h) rfl (fun _ => ?_)
    refine S_di 0 23 271 0 [.inr (29, 0), av0, .inl (.int x2), .inl (.int x3), .inl (.long x4), av0, .inl (.int x6), av0] [.inl (.int (h.1 16 0 x6.toNatClampNeg)), .inl (.int x3)] [.inl (.int (h.1 16 0 x6.toNatClampNeg))] [.inr (29, 0), av0, .inl (.int x2), .inl (.int x3), .inl (.long x4), av0, .inl (.int x6), av0] [.inl (.int x3)] h rfl rfl pp_271 (by decide) (s_J6_bitCount_0f7a4 (h.1 16 0 x6.toNatClampNeg) h) (fun y1 h2 => ?_)
    refine S_di 4 28 138 0 [.inr (29, 0), av0, .inl (.int x2), .inl (.int x3), .inl (.long x4), av0, .inl (.int x6), .inl (.int (x3 * y1))] [.inl (.int x6), .inl (.int x2)] [.inl (.int x2), .inl (.int x6)] [.inr (29, 0), av0, .inl (.int x2), .inl (.int x3), .inl (.long x4), av0, .inl (.int x6), .inl (.int (x3 * y1))] [] h2 rfl rfl pp_138 (by decide) (s_X11_has x2 x6 h2) (fun y3 h4 => ?_)
    refine S_br 1 43 30 [.inr (29, 0), av0, .inl (.int x2), .inl (.int x3), .inl (.long x4), av0, .inl (.int x6), .inl (.int (x3 * y1))] [] h4 rfl (fun _ => ?_) (fun _ => ?_)
    · refine S_blk 2 (12, [.inr (29, 0), av0, .inl (.int x2), .inl (.int x3), .inl (.long x4), av0, .inl (.int (x6 + (1 : Int32))), .inl (.int (x3 * y1))], [], h4) rfl ?_
      refine S_nrm [.inr (29, 0), av0, .inl (.int x2), .inl (.int x3), .inl (.long x4), av0, .inl (.int (x6 + (1 : Int32))), av0] rfl ?_
      exact hrc x4 (x6 + (1 : Int32)) h4
    · refine S_br 2 43 32 [.inr (29, 0), av0, .inl (.int x2), .inl (.int x3), .inl (.long x4), av0, .inl (.int x6), .inl (.int (x3 * y1))] [] h4 rfl (fun _ => ?_) (fun _ => ?_)
      · refine S_blk 2 (12, [.inr (29, 0), av0, .inl (.int x2), .inl (.int x3), .inl (.long x4), av0, .inl (.int (x6 + (1 : Int32))), .inl (.int (x3 * y1))], [], h4) rfl ?_
        refine S_nrm [.inr (29, 0), av0, .inl (.int x2), .inl (.int x3), .inl (.long x4), av0, .inl (.int (x6 + (1 : Int32))), av0] rfl ?_
        exact hrc x4 (x6 + (1 : Int32)) h4
      · refine S_grn 4 (36, [.inr (29, 0), av0, .inl (.int x2), .inl (.int x3), .inl (.long x4), av0, .inl (.int x6), .inl (.int (x3 * y1))], [.inl (.int ((72 : Int32) / (x3 * y1))), .inl (.long x4)], h4) rfl (fun _ => ?_)
        refine S_dl 3 39 23 1 [.inr (29, 0), av0, .inl (.int x2), .inl (.int x3), .inl (.long x4), av0, .inl (.int x6), .inl (.int (x3 * y1))] [.inl (.int x6), .inr (29, 0), .inl (.long (((72 : Int32) / (x3 * y1)).toInt64)), .inl (.long x4)] [.inr (29, 0), .inl (.int x6), av0, av0, av0] [.inr (29, 0), av0, .inl (.int x2), .inl (.int x3), .inl (.long x4), av0, .inl (.int x6), .inl (.int (x3 * y1))] [.inl (.long (((72 : Int32) / (x3 * y1)).toInt64)), .inl (.long x4)] h4 rfl rfl pp_23 (by decide) (s_X2_shareByParts x6 h4) (fun y5 h6 => ?_)
        refine S_blk 5 (12, [.inr (29, 0), av0, .inl (.int x2), .inl (.int x3), .inl (.long (x4 + ((((72 : Int32) / (x3 * y1)).toInt64) * y5))), av0, .inl (.int (x6 + (1 : Int32))), .inl (.int (x3 * y1))], [], h6) rfl ?_
        refine S_nrm [.inr (29, 0), av0, .inl (.int x2), .inl (.int x3), .inl (.long (x4 + ((((72 : Int32) / (x3 * y1)).toInt64) * y5))), av0, .inl (.int (x6 + (1 : Int32))), av0] rfl ?_
        exact hrc (x4 + ((((72 : Int32) / (x3 * y1)).toInt64) * y5)) (x6 + (1 : Int32)) h6
theorem sl_X2_shareByReasons_12    (x2 : Int32) (x3 : Int32) : ∀ (F : Nat) (x4 : Int64) (x6 : Int32) (h : AH), Sim PP (3) k_X2_shareByReasons (12, [.inr (29, 0), av0, .inl (.int x2), .inl (.int x3), .inl (.long x4), av0, .inl (.int x6), av0], [], h) (l_X2_shareByReasons_12 F x2 x3 x4 x6 h) (fE PP (3) k_X2_shareByReasons 45 (fun v => [av0, av0, av0, av0, .inl (.long v), av0, av0, av0])) := by
  intro F
  induction F with
  | zero => intro x4 x6 h; exact S_none
  | succ F ih => intro x4 x6 h; exact sb_X2_shareByReasons_12 (l_X2_shareByReasons_12 F) x2 x3 x4 x6 ih h
theorem sc_X2_shareByReasons_45    (x4 : Int64)  (h : AH) : Sim PP (3) k_X2_shareByReasons (45, [av0, av0, av0, av0, .inl (.long x4), av0, av0, av0], [], h) (c_X2_shareByReasons_45  x4 h) fL := by
  unfold c_X2_shareByReasons_45
  exact S_rl 1 (46, [av0, av0, av0, av0, .inl (.long x4), av0, av0, av0], [.inl (.long x4)], h) rfl rfl
theorem s_X2_shareByReasons (x1 : Int32) (h : AH) : Sim PP (3) k_X2_shareByReasons (0, [.inr (29, 0), .inl (.int x1), av0, av0, av0, av0, av0, av0], [], h) (f_X2_shareByReasons x1 h) fL := by
  unfold f_X2_shareByReasons
  refine S_di 3 3 1 2 [.inr (29, 0), .inl (.int x1), av0, av0, av0, av0, av0, av0] [.inl (.int x1), .inr (18, 0)] [.inr (18, 0), .inl (.int x1), av0, av0] [.inr (29, 0), .inl (.int x1), av0, av0, av0, av0, av0, av0] [] h rfl rfl pp_1 (by decide) (s_X0_usableFor x1 h) (fun y1 h2 => ?_)
  refine S_di 2 6 271 0 [.inr (29, 0), .inl (.int x1), .inl (.int y1), av0, av0, av0, av0, av0] [.inl (.int y1)] [.inl (.int y1)] [.inr (29, 0), .inl (.int x1), .inl (.int y1), av0, av0, av0, av0, av0] [] h2 rfl rfl pp_271 (by decide) (s_J6_bitCount_0f7a4 y1 h2) (fun y3 h4 => ?_)
  refine S_blk 5 (12, [.inr (29, 0), .inl (.int x1), .inl (.int y1), .inl (.int y3), .inl (.long (0 : Int64)), av0, .inl (.int (0 : Int32)), av0], [], h4) rfl ?_
  refine S_nrm [.inr (29, 0), av0, .inl (.int y1), .inl (.int y3), .inl (.long (0 : Int64)), av0, .inl (.int (0 : Int32)), av0] rfl ?_
  refine S_lp 45 (fun v => [av0, av0, av0, av0, .inl (.long v), av0, av0, av0]) (sl_X2_shareByReasons_12 y1 y3 FU (0 : Int64) (0 : Int32) h4) (fun v h => ?_)
  exact sc_X2_shareByReasons_45 v h
theorem sb_X2_shareOfLoss_8  (rc : Int32 → Int32 → Int32 → Int64 → Int32 → AH → Option (Unit × AH)) (x1 : Int32) (x2 : Int32) (x3 : Int32) (x4 : Int64) (x6 : Int32) (hrc : ∀ (x6 : Int32) (h : AH), Sim PP (4) k_X2_shareOfLoss (8, [.inr (29, 0), .inl (.int x1), .inl (.int x2), .inl (.int x3), .inl (.long x4), av0, .inl (.int x6), av0], [], h) (rc x1 x2 x3 x4 x6 h) (fE PP (4) k_X2_shareOfLoss 23 (fun v => [.inr (29, 0), .inl (.int x1), .inl (.int x2), .inl (.int x3), .inl (.long x4), av0, av0, av0])))  (h : AH) : Sim PP (4) k_X2_shareOfLoss (8, [.inr (29, 0), .inl (.int x1), .inl (.int x2), .inl (.int x3), .inl (.long x4), av0, .inl (.int x6), av0], [], h) (b_X2_shareOfLoss_8 rc x1 x2 x3 x4 x6 h) (fE PP (4) k_X2_shareOfLoss 23 (fun v => [.inr (29, 0), .inl (.int x1), .inl (.int x2), .inl (.int x3), .inl (.long x4), av0, av0, av0])) := by
  unfold b_X2_shareOfLoss_8
  refine S_br 5 23 13 [.inr (29, 0), .inl (.int x1), .inl (.int x2), .inl (.int x3), .inl (.long x4), av0, .inl (.int x6), av0] [] h rfl (fun _ => ?_) (fun _ => ?_)
  · exact S_ex () (fun v => [.inr (29, 0), .inl (.int x1), .inl (.int x2), .inl (.int x3), .inl (.long x4), av0, av0, av0]) rfl
  · refine S_di 5 18 139 0 [.inr (29, 0), .inl (.int x1), .inl (.int x2), .inl (.int x3), .inl (.long x4), av0, .inl (.int x6), av0] [.inl (.int x6), .inl (.int x3), .inl (.int x6), .inr (30, 0)] [.inl (.int x3), .inl (.int x6)] [.inr (29, 0), .inl (.int x1), .inl (.int x2), .inl (.int x3), .inl (.long x4), av0, .inl (.int x6), av0] [.inl (.int x6), .inr (30, 0)] h rfl rfl pp_139 (by decide) (s_X11_bit x3 x6 h) (fun y1 h2 => ?_)
    refine S_grd 2 (21, [.inr (29, 0), .inl (.int x1), .inl (.int x2), .inl (.int x3), .inl (.long x4), av0, .inl (.int x6), av0], [], (hsL h2 30 0 x6.toNatClampNeg y1.toInt64)) rfl (fun _ => ?_)
    refine S_blk 2 (8, [.inr (29, 0), .inl (.int x1), .inl (.int x2), .inl (.int x3), .inl (.long x4), av0, .inl (.int (x6 + (1 : Int32))), av0], [], (hsL h2 30 0 x6.toNatClampNeg y1.toInt64)) rfl ?_
    refine S_nrm [.inr (29, 0), .inl (.int x1), .inl (.int x2), .inl (.int x3), .inl (.long x4), av0, .inl (.int (x6 + (1 : Int32))), av0] rfl ?_
    exact hrc (x6 + (1 : Int32)) (hsL h2 30 0 x6.toNatClampNeg y1.toInt64)
theorem sl_X2_shareOfLoss_8    (x1 : Int32) (x2 : Int32) (x3 : Int32) (x4 : Int64) : ∀ (F : Nat) (x6 : Int32) (h : AH), Sim PP (4) k_X2_shareOfLoss (8, [.inr (29, 0), .inl (.int x1), .inl (.int x2), .inl (.int x3), .inl (.long x4), av0, .inl (.int x6), av0], [], h) (l_X2_shareOfLoss_8 F x1 x2 x3 x4 x6 h) (fE PP (4) k_X2_shareOfLoss 23 (fun v => [.inr (29, 0), .inl (.int x1), .inl (.int x2), .inl (.int x3), .inl (.long x4), av0, av0, av0])) := by
  intro F
  induction F with
  | zero => intro x6 h; exact S_none
  | succ F ih => intro x6 h; exact sb_X2_shareOfLoss_8 (l_X2_shareOfLoss_8 F) x1 x2 x3 x4 x6 ih h
theorem sb_X2_shareOfLoss_42  (rc : Int32 → Int32 → Int32 → Int64 → Int32 → Int32 → AH → Option (Unit × AH)) (x1 : Int32) (x2 : Int32) (x3 : Int32) (x4 : Int64) (x6 : Int32) (x7 : Int32) (hrc : ∀ (x7 : Int32) (h : AH), Sim PP (4) k_X2_shareOfLoss (42, [.inr (29, 0), .inl (.int x1), .inl (.int x2), .inl (.int x3), .inl (.long x4), av0, .inl (.int x6), .inl (.int x7)], [], h) (rc x1 x2 x3 x4 x6 x7 h) (fE PP (4) k_X2_shareOfLoss 62 (fun v => [.inr (29, 0), .inl (.int x1), .inl (.int x2), .inl (.int x3), .inl (.long x4), av0, .inl (.int x6), av0])))  (h : AH) : Sim PP (4) k_X2_shareOfLoss (42, [.inr (29, 0), .inl (.int x1), .inl (.int x2), .inl (.int x3), .inl (.long x4), av0, .inl (.int x6), .inl (.int x7)], [], h) (b_X2_shareOfLoss_42 rc x1 x2 x3 x4 x6 x7 h) (fE PP (4) k_X2_shareOfLoss 62 (fun v => [.inr (29, 0), .inl (.int x1), .inl (.int x2), .inl (.int x3), .inl (.long x4), av0, .inl (.int x6), av0])) := by
  unfold b_X2_shareOfLoss_42
  refine S_br 5 62 47 [.inr (29, 0), .inl (.int x1), .inl (.int x2), .inl (.int x3), .inl (.long x4), av0, .inl (.int x6), .inl (.int x7)] [] h rfl (fun _ => ?_) (fun _ => ?_)
  · exact S_ex () (fun v => [.inr (29, 0), .inl (.int x1), .inl (.int x2), .inl (.int x3), .inl (.long x4), av0, .inl (.int x6), av0]) rfl
  · refine S_di 5 52 138 0 [.inr (29, 0), .inl (.int x1), .inl (.int x2), .inl (.int x3), .inl (.long x4), av0, .inl (.int x6), .inl (.int x7)] [.inl (.int x7), .inl (.int x3), .inl (.int x7), .inr (30, 0)] [.inl (.int x3), .inl (.int x7)] [.inr (29, 0), .inl (.int x1), .inl (.int x2), .inl (.int x3), .inl (.long x4), av0, .inl (.int x6), .inl (.int x7)] [.inl (.int x7), .inr (30, 0)] h rfl rfl pp_138 (by decide) (s_X11_has x3 x7 h) (fun y1 h2 => ?_)
    refine S_br 1 56 54 [.inr (29, 0), .inl (.int x1), .inl (.int x2), .inl (.int x3), .inl (.long x4), av0, .inl (.int x6), .inl (.int x7)] [.inl (.int x7), .inr (30, 0)] h2 rfl (fun _ => ?_) (fun _ => ?_)
    · refine S_dl 2 58 22 3 [.inr (29, 0), .inl (.int x1), .inl (.int x2), .inl (.int x3), .inl (.long x4), av0, .inl (.int x6), .inl (.int x7)] [.inl (.int x7), .inr (29, 0), .inl (.int x7), .inr (30, 0)] [.inr (29, 0), .inl (.int x7), av0, av0, av0, av0, av0, av0] [.inr (29, 0), .inl (.int x1), .inl (.int x2), .inl (.int x3), .inl (.long x4), av0, .inl (.int x6), .inl (.int x7)] [.inl (.int x7), .inr (30, 0)] h2 rfl rfl pp_22 (by decide) (s_X2_shareByReasons x7 h2) (fun y3 h4 => ?_)
      refine S_grd 1 (60, [.inr (29, 0), .inl (.int x1), .inl (.int x2), .inl (.int x3), .inl (.long x4), av0, .inl (.int x6), .inl (.int x7)], [], (hsL h4 30 0 x7.toNatClampNeg y3)) rfl (fun _ => ?_)
      refine S_blk 2 (42, [.inr (29, 0), .inl (.int x1), .inl (.int x2), .inl (.int x3), .inl (.long x4), av0, .inl (.int x6), .inl (.int (x7 + (1 : Int32)))], [], (hsL h4 30 0 x7.toNatClampNeg y3)) rfl ?_
      refine S_nrm [.inr (29, 0), .inl (.int x1), .inl (.int x2), .inl (.int x3), .inl (.long x4), av0, .inl (.int x6), .inl (.int (x7 + (1 : Int32)))] rfl ?_
      exact hrc (x7 + (1 : Int32)) (hsL h4 30 0 x7.toNatClampNeg y3)
    · refine S_grd 3 (60, [.inr (29, 0), .inl (.int x1), .inl (.int x2), .inl (.int x3), .inl (.long x4), av0, .inl (.int x6), .inl (.int x7)], [], (hsL h2 30 0 x7.toNatClampNeg x4)) rfl (fun _ => ?_)
      refine S_blk 2 (42, [.inr (29, 0), .inl (.int x1), .inl (.int x2), .inl (.int x3), .inl (.long x4), av0, .inl (.int x6), .inl (.int (x7 + (1 : Int32)))], [], (hsL h2 30 0 x7.toNatClampNeg x4)) rfl ?_
      refine S_nrm [.inr (29, 0), .inl (.int x1), .inl (.int x2), .inl (.int x3), .inl (.long x4), av0, .inl (.int x6), .inl (.int (x7 + (1 : Int32)))] rfl ?_
      exact hrc (x7 + (1 : Int32)) (hsL h2 30 0 x7.toNatClampNeg x4)
theorem sl_X2_shareOfLoss_42    (x1 : Int32) (x2 : Int32) (x3 : Int32) (x4 : Int64) (x6 : Int32) : ∀ (F : Nat) (x7 : Int32) (h : AH), Sim PP (4) k_X2_shareOfLoss (42, [.inr (29, 0), .inl (.int x1), .inl (.int x2), .inl (.int x3), .inl (.long x4), av0, .inl (.int x6), .inl (.int x7)], [], h) (l_X2_shareOfLoss_42 F x1 x2 x3 x4 x6 x7 h) (fE PP (4) k_X2_shareOfLoss 62 (fun v => [.inr (29, 0), .inl (.int x1), .inl (.int x2), .inl (.int x3), .inl (.long x4), av0, .inl (.int x6), av0])) := by
  intro F
  induction F with
  | zero => intro x7 h; exact S_none
  | succ F ih => intro x7 h; exact sb_X2_shareOfLoss_42 (l_X2_shareOfLoss_42 F) x1 x2 x3 x4 x6 x7 ih h
theorem sc_X2_shareOfLoss_62  (rc : Int32 → Int32 → Int32 → Int64 → Int32 → AH → Option (Unit × AH))  (x1 : Int32) (x2 : Int32) (x3 : Int32) (x4 : Int64) (x6 : Int32) (hrc : ∀ (x4 : Int64) (x6 : Int32) (h : AH), Sim PP (4) k_X2_shareOfLoss (25, [.inr (29, 0), .inl (.int x1), .inl (.int x2), .inl (.int x3), .inl (.long x4), av0, .inl (.int x6), av0], [], h) (rc x1 x2 x3 x4 x6 h) (fE PP (4) k_X2_shareOfLoss 64 (fun v => [.inr (29, 0), .inl (.int x1), av0, av0, av0, av0, av0, av0]))) (h : AH) : Sim PP (4) k_X2_shareOfLoss (62, [.inr (29, 0), .inl (.int x1), .inl (.int x2), .inl (.int x3), .inl (.long x4), av0, .inl (.int x6), av0], [], h) (c_X2_shareOfLoss_62 rc x1 x2 x3 x4 x6 h) (fE PP (4) k_X2_shareOfLoss 64 (fun v => [.inr (29, 0), .inl (.int x1), av0, av0, av0, av0, av0, av0])) := by
  unfold c_X2_shareOfLoss_62
  refine S_blk 2 (25, [.inr (29, 0), .inl (.int x1), .inl (.int x2), .inl (.int x3), .inl (.long x4), av0, .inl (.int (x6 + (1 : Int32))), av0], [], h) rfl ?_
  refine S_nrm [.inr (29, 0), .inl (.int x1), .inl (.int x2), .inl (.int x3), .inl (.long x4), av0, .inl (.int (x6 + (1 : Int32))), av0] rfl ?_
  exact hrc x4 (x6 + (1 : Int32)) h
theorem sb_X2_shareOfLoss_25  (rc : Int32 → Int32 → Int32 → Int64 → Int32 → AH → Option (Unit × AH)) (x1 : Int32) (x2 : Int32) (x3 : Int32) (x4 : Int64) (x6 : Int32) (hrc : ∀ (x4 : Int64) (x6 : Int32) (h : AH), Sim PP (4) k_X2_shareOfLoss (25, [.inr (29, 0), .inl (.int x1), .inl (.int x2), .inl (.int x3), .inl (.long x4), av0, .inl (.int x6), av0], [], h) (rc x1 x2 x3 x4 x6 h) (fE PP (4) k_X2_shareOfLoss 64 (fun v => [.inr (29, 0), .inl (.int x1), av0, av0, av0, av0, av0, av0])))  (h : AH) : Sim PP (4) k_X2_shareOfLoss (25, [.inr (29, 0), .inl (.int x1), .inl (.int x2), .inl (.int x3), .inl (.long x4), av0, .inl (.int x6), av0], [], h) (b_X2_shareOfLoss_25 rc x1 x2 x3 x4 x6 h) (fE PP (4) k_X2_shareOfLoss 64 (fun v => [.inr (29, 0), .inl (.int x1), av0, av0, av0, av0, av0, av0])) := by
  unfold b_X2_shareOfLoss_25
  refine S_br 3 64 28 [.inr (29, 0), .inl (.int x1), .inl (.int x2), .inl (.int x3), .inl (.long x4), av0, .inl (.int x6), av0] [] h rfl (fun _ => ?_) (fun _ => ?_)
  · exact S_ex () (fun v => [.inr (29, 0), .inl (.int x1), av0, av0, av0, av0, av0, av0]) rfl
  · refine S_gt 12 (c := (¬ (0 : Int32) < 0 ∧ ¬ (0 : Int32) < 0 ∧ ¬ (10 : Int32) < 0) ∧ (0 : Int32).toNatClampNeg + (10 : Int32).toNatClampNeg ≤ 10 ∧ (0 : Int32).toNatClampNeg + (10 : Int32).toNatClampNeg ≤ 10) (40, [.inr (29, 0), .inl (.int x1), .inl (.int x2), .inl (.int x3), .inl (.long (x4 * (72 : Int64))), av0, .inl (.int x6), av0], [], (hcpL h 30 0 31 0 (0 : Int32).toNatClampNeg (0 : Int32).toNatClampNeg (10 : Int32).toNatClampNeg)) rfl (by decide) ?_
    refine S_blk 2 (42, [.inr (29, 0), .inl (.int x1), .inl (.int x2), .inl (.int x3), .inl (.long (x4 * (72 : Int64))), av0, .inl (.int x6), .inl (.int (0 : Int32))], [], (hcpL h 30 0 31 0 (0 : Int32).toNatClampNeg (0 : Int32).toNatClampNeg (10 : Int32).toNatClampNeg)) rfl ?_
    refine S_nrm [.inr (29, 0), .inl (.int x1), .inl (.int x2), .inl (.int x3), .inl (.long (x4 * (72 : Int64))), av0, .inl (.int x6), .inl (.int (0 : Int32))] rfl ?_
    refine S_lp 62 (fun v => [.inr (29, 0), .inl (.int x1), .inl (.int x2), .inl (.int x3), .inl (.long (x4 * (72 : Int64))), av0, .inl (.int x6), av0]) (sl_X2_shareOfLoss_42 x1 x2 x3 (x4 * (72 : Int64)) x6 FU (0 : Int32) (hcpL h 30 0 31 0 (0 : Int32).toNatClampNeg (0 : Int32).toNatClampNeg (10 : Int32).toNatClampNeg)) (fun v h => ?_)
    exact sc_X2_shareOfLoss_62 rc x1 x2 x3 (x4 * (72 : Int64)) x6 hrc h
theorem sl_X2_shareOfLoss_25    (x1 : Int32) (x2 : Int32) (x3 : Int32) : ∀ (F : Nat) (x4 : Int64) (x6 : Int32) (h : AH), Sim PP (4) k_X2_shareOfLoss (25, [.inr (29, 0), .inl (.int x1), .inl (.int x2), .inl (.int x3), .inl (.long x4), av0, .inl (.int x6), av0], [], h) (l_X2_shareOfLoss_25 F x1 x2 x3 x4 x6 h) (fE PP (4) k_X2_shareOfLoss 64 (fun v => [.inr (29, 0), .inl (.int x1), av0, av0, av0, av0, av0, av0])) := by
  intro F
  induction F with
  | zero => intro x4 x6 h; exact S_none
  | succ F ih => intro x4 x6 h; exact sb_X2_shareOfLoss_25 (l_X2_shareOfLoss_25 F) x1 x2 x3 x4 x6 ih h
theorem sc_X2_shareOfLoss_64    (x1 : Int32)  (h : AH) : Sim PP (4) k_X2_shareOfLoss (64, [.inr (29, 0), .inl (.int x1), av0, av0, av0, av0, av0, av0], [], h) (c_X2_shareOfLoss_64  x1 h) fL := by
  unfold c_X2_shareOfLoss_64
  refine S_grd 4 (68, [.inr (29, 0), .inl (.int x1), av0, av0, av0, av0, av0, av0], [.inl (.long (h.2 30 0 x1.toNatClampNeg))], h) rfl (fun _ => ?_)
  exact S_rl 0 (68, [.inr (29, 0), .inl (.int x1), av0, av0, av0, av0, av0, av0], [.inl (.long (h.2 30 0 x1.toNatClampNeg))], h) rfl rfl
theorem sc_X2_shareOfLoss_23    (x1 : Int32) (x2 : Int32) (x3 : Int32) (x4 : Int64)  (h : AH) : Sim PP (4) k_X2_shareOfLoss (23, [.inr (29, 0), .inl (.int x1), .inl (.int x2), .inl (.int x3), .inl (.long x4), av0, av0, av0], [], h) (c_X2_shareOfLoss_23  x1 x2 x3 x4 h) fL := by
  unfold c_X2_shareOfLoss_23
  refine S_blk 2 (25, [.inr (29, 0), .inl (.int x1), .inl (.int x2), .inl (.int x3), .inl (.long x4), av0, .inl (.int (0 : Int32)), av0], [], h) rfl ?_
  refine S_nrm [.inr (29, 0), .inl (.int x1), .inl (.int x2), .inl (.int x3), .inl (.long x4), av0, .inl (.int (0 : Int32)), av0] rfl ?_
  refine S_lp 64 (fun v => [.inr (29, 0), .inl (.int x1), av0, av0, av0, av0, av0, av0]) (sl_X2_shareOfLoss_25 x1 x2 x3 FU x4 (0 : Int32) h) (fun v h => ?_)
  exact sc_X2_shareOfLoss_64 x1 h
theorem s_X2_shareOfLoss (x1 : Int32) (x2 : Int32) (h : AH) : Sim PP (4) k_X2_shareOfLoss (0, [.inr (29, 0), .inl (.int x1), .inl (.int x2), av0, av0, av0, av0, av0], [], h) (f_X2_shareOfLoss x1 x2 h) fL := by
  unfold f_X2_shareOfLoss
  refine S_di 2 2 2 2 [.inr (29, 0), .inl (.int x1), .inl (.int x2), av0, av0, av0, av0, av0] [.inr (18, 0)] [.inr (18, 0), av0, av0] [.inr (29, 0), .inl (.int x1), .inl (.int x2), av0, av0, av0, av0, av0] [] h rfl rfl pp_2 (by decide) (s_X0_lossBits  h) (fun y1 h2 => ?_)
  refine S_blk 5 (8, [.inr (29, 0), .inl (.int x1), .inl (.int x2), .inl (.int y1), .inl (.long (1 : Int64)), av0, .inl (.int (0 : Int32)), av0], [], h2) rfl ?_
  refine S_nrm [.inr (29, 0), .inl (.int x1), .inl (.int x2), .inl (.int y1), .inl (.long (1 : Int64)), av0, .inl (.int (0 : Int32)), av0] rfl ?_
  refine S_lp 23 (fun v => [.inr (29, 0), .inl (.int x1), .inl (.int x2), .inl (.int y1), .inl (.long (1 : Int64)), av0, av0, av0]) (sl_X2_shareOfLoss_8 x1 x2 y1 (1 : Int64) FU (0 : Int32) h2) (fun v h => ?_)
  exact sc_X2_shareOfLoss_23 x1 x2 y1 (1 : Int64) h
theorem sb_X11_commonDivisor_6  (rc : Int64 → Int64 → Int32 → AH → Option (Int64 × AH)) (x4 : Int64) (x6 : Int64) (x8 : Int32) (hrc : ∀ (x4 : Int64) (x6 : Int64) (x8 : Int32) (h : AH), Sim PP (0) k_X11_commonDivisor (6, [av0, av0, av0, av0, .inl (.long x4), av0, .inl (.long x6), av0, .inl (.int x8), av0, av0], [], h) (rc x4 x6 x8 h) (fE PP (0) k_X11_commonDivisor 23 (fun v => [av0, av0, av0, av0, av0, av0, .inl (.long v), av0, av0, av0, av0])))  (h : AH) : Sim PP (0) k_X11_commonDivisor (6, [av0, av0, av0, av0, .inl (.long x4), av0, .inl (.long x6), av0, .inl (.int x8), av0, av0], [], h) (b_X11_commonDivisor_6 rc x4 x6 x8 h) (fE PP (0) k_X11_commonDivisor 23 (fun v => [av0, av0, av0, av0, av0, av0, .inl (.long v), av0, av0, av0, av0])) := by
  unfold b_X11_commonDivisor_6
  refine S_br 3 23 9 [av0, av0, av0, av0, .inl (.long x4), av0, .inl (.long x6), av0, .inl (.int x8), av0, av0] [] h rfl (fun _ => ?_) (fun _ => ?_)
  · exact S_ex x6 (fun v => [av0, av0, av0, av0, av0, av0, .inl (.long v), av0, av0, av0, av0]) rfl
  · refine S_br 4 23 13 [av0, av0, av0, av0, .inl (.long x4), av0, .inl (.long x6), av0, .inl (.int x8), av0, av0] [] h rfl (fun _ => ?_) (fun _ => ?_)
    · exact S_ex x6 (fun v => [av0, av0, av0, av0, av0, av0, .inl (.long v), av0, av0, av0, av0]) rfl
    · refine S_grn 3 (16, [av0, av0, av0, av0, .inl (.long x4), av0, .inl (.long x6), av0, .inl (.int x8), av0, av0], [.inl (.long (x6 - x6 / x4 * x4))], h) rfl (fun _ => ?_)
      refine S_blk 7 (6, [av0, av0, av0, av0, .inl (.long (x6 - x6 / x4 * x4)), av0, .inl (.long x4), av0, .inl (.int (x8 + (1 : Int32))), .inl (.long (x6 - x6 / x4 * x4)), av0], [], h) rfl ?_
      refine S_nrm [av0, av0, av0, av0, .inl (.long (x6 - x6 / x4 * x4)), av0, .inl (.long x4), av0, .inl (.int (x8 + (1 : Int32))), av0, av0] rfl ?_
      exact hrc (x6 - x6 / x4 * x4) x4 (x8 + (1 : Int32)) h
theorem sl_X11_commonDivisor_6     : ∀ (F : Nat) (x4 : Int64) (x6 : Int64) (x8 : Int32) (h : AH), Sim PP (0) k_X11_commonDivisor (6, [av0, av0, av0, av0, .inl (.long x4), av0, .inl (.long x6), av0, .inl (.int x8), av0, av0], [], h) (l_X11_commonDivisor_6 F x4 x6 x8 h) (fE PP (0) k_X11_commonDivisor 23 (fun v => [av0, av0, av0, av0, av0, av0, .inl (.long v), av0, av0, av0, av0])) := by
  intro F
  induction F with
  | zero => intro x4 x6 x8 h; exact S_none
  | succ F ih => intro x4 x6 x8 h; exact sb_X11_commonDivisor_6 (l_X11_commonDivisor_6 F) x4 x6 x8 ih h
theorem sc_X11_commonDivisor_23    (x6 : Int64)  (h : AH) : Sim PP (0) k_X11_commonDivisor (23, [av0, av0, av0, av0, av0, av0, .inl (.long x6), av0, av0, av0, av0], [], h) (c_X11_commonDivisor_23  x6 h) fL := by
  unfold c_X11_commonDivisor_23
  refine S_br 4 27 29 [av0, av0, av0, av0, av0, av0, .inl (.long x6), av0, av0, av0, av0] [] h rfl (fun _ => ?_) (fun _ => ?_)
  · exact S_rl 2 (30, [av0, av0, av0, av0, av0, av0, .inl (.long x6), av0, av0, av0, av0], [.inl (.long (1 : Int64))], h) rfl rfl
  · exact S_rl 1 (30, [av0, av0, av0, av0, av0, av0, .inl (.long x6), av0, av0, av0, av0], [.inl (.long x6)], h) rfl rfl
theorem s_X11_commonDivisor (x0 : Int64) (x2 : Int64) (h : AH) : Sim PP (0) k_X11_commonDivisor (0, [.inl (.long x0), av0, .inl (.long x2), av0, av0, av0, av0, av0, av0, av0, av0], [], h) (f_X11_commonDivisor x0 x2 h) fL := by
  unfold f_X11_commonDivisor
  refine S_blk 6 (6, [.inl (.long x0), av0, .inl (.long x2), av0, .inl (.long x0), av0, .inl (.long x2), av0, .inl (.int (0 : Int32)), av0, av0], [], h) rfl ?_
  refine S_nrm [av0, av0, av0, av0, .inl (.long x0), av0, .inl (.long x2), av0, .inl (.int (0 : Int32)), av0, av0] rfl ?_
  refine S_lp 23 (fun v => [av0, av0, av0, av0, av0, av0, .inl (.long v), av0, av0, av0, av0]) (sl_X11_commonDivisor_6  FU x0 x2 (0 : Int32) h) (fun v h => ?_)
  exact sc_X11_commonDivisor_23 v h
theorem sb_X11_odds_23  (rc : Int32 → Int32 → AH → Option (Unit × AH)) (x2 : Int32) (x3 : Int32) (hrc : ∀ (x3 : Int32) (h : AH), Sim PP (5) k_X11_odds (23, [.inr (0, 0), av0, .inl (.int x2), .inl (.int x3), av0], [], h) (rc x2 x3 h) (fE PP (5) k_X11_odds 34 (fun v => [.inr (0, 0), av0, av0, av0, av0])))  (h : AH) : Sim PP (5) k_X11_odds (23, [.inr (0, 0), av0, .inl (.int x2), .inl (.int x3), av0], [], h) (b_X11_odds_23 rc x2 x3 h) (fE PP (5) k_X11_odds 34 (fun v => [.inr (0, 0), av0, av0, av0, av0])) := by
  unfold b_X11_odds_23
  refine S_br 3 34 26 [.inr (0, 0), av0, .inl (.int x2), .inl (.int x3), av0] [] h rfl (fun _ => ?_) (fun _ => ?_)
  · exact S_ex () (fun v => [.inr (0, 0), av0, av0, av0, av0]) rfl
  · refine S_blk 8 (23, [.inr (0, 0), av0, .inl (.int x2), .inl (.int (x3 + (1 : Int32))), av0], [], (hsL h 0 0 16 ((h.2 0 0 16) * (72 : Int64)))) rfl ?_
    refine S_nrm [.inr (0, 0), av0, .inl (.int x2), .inl (.int (x3 + (1 : Int32))), av0] rfl ?_
    exact hrc (x3 + (1 : Int32)) (hsL h 0 0 16 ((h.2 0 0 16) * (72 : Int64)))
theorem sl_X11_odds_23    (x2 : Int32) : ∀ (F : Nat) (x3 : Int32) (h : AH), Sim PP (5) k_X11_odds (23, [.inr (0, 0), av0, .inl (.int x2), .inl (.int x3), av0], [], h) (l_X11_odds_23 F x2 x3 h) (fE PP (5) k_X11_odds 34 (fun v => [.inr (0, 0), av0, av0, av0, av0])) := by
  intro F
  induction F with
  | zero => intro x3 h; exact S_none
  | succ F ih => intro x3 h; exact sb_X11_odds_23 (l_X11_odds_23 F) x2 x3 ih h
theorem sc_X11_odds_34      (h : AH) : Sim PP (5) k_X11_odds (34, [.inr (0, 0), av0, av0, av0, av0], [], h) (c_X11_odds_34   h) fI := by
  unfold c_X11_odds_34
  refine S_dl 4 38 141 0 [.inr (0, 0), av0, av0, av0, av0] [.inl (.long (h.2 0 0 16)), .inl (.long (h.2 0 0 15))] [.inl (.long (h.2 0 0 15)), av0, .inl (.long (h.2 0 0 16)), av0, av0, av0, av0, av0, av0, av0, av0] [.inr (0, 0), av0, av0, av0, av0] [] h rfl rfl pp_141 (by decide) (s_X11_commonDivisor (h.2 0 0 15) (h.2 0 0 16) h) (fun y1 h2 => ?_)
  refine S_grn 6 (45, [.inr (0, 0), av0, av0, .inl (.long y1), av0], [.inl (.long ((h2.2 0 0 15) / y1)), .inr (0, 0)], h2) rfl (fun _ => ?_)
  refine S_grn 6 (51, [.inr (0, 0), av0, av0, .inl (.long y1), av0], [.inl (.long (((hsL h2 0 0 15 ((h2.2 0 0 15) / y1)).2 0 0 16) / y1)), .inr (0, 0)], (hsL h2 0 0 15 ((h2.2 0 0 15) / y1))) rfl (fun _ => ?_)
  exact S_ri 2 (53, [.inr (0, 0), av0, av0, .inl (.long y1), av0], [.inl (.int (1 : Int32))], (hsL (hsL h2 0 0 15 ((h2.2 0 0 15) / y1)) 0 0 16 (((hsL h2 0 0 15 ((h2.2 0 0 15) / y1)).2 0 0 16) / y1))) rfl rfl
theorem s_X11_odds (x1 : Int32) (x2 : Int32) (h : AH) : Sim PP (5) k_X11_odds (0, [.inr (0, 0), .inl (.int x1), .inl (.int x2), av0, av0], [], h) (f_X11_odds x1 x2 h) fI := by
  unfold f_X11_odds
  refine S_di 2 2 136 0 [.inr (0, 0), .inl (.int x1), .inl (.int x2), av0, av0] [.inl (.int x1), .inr (0, 0)] [.inr (0, 0), .inl (.int x1)] [.inr (0, 0), .inl (.int x1), .inl (.int x2), av0, av0] [] h rfl rfl pp_136 (by decide) (s_X11_isClaim x1 h) (fun y1 h2 => ?_)
  refine S_br 1 9 4 [.inr (0, 0), .inl (.int x1), .inl (.int x2), av0, av0] [] h2 rfl (fun _ => ?_) (fun _ => ?_)
  · exact S_ri 1 (10, [.inr (0, 0), .inl (.int x1), .inl (.int x2), av0, av0], [.inl (.int (-1 : Int32))], h2) rfl rfl
  · refine S_br 2 9 6 [.inr (0, 0), .inl (.int x1), .inl (.int x2), av0, av0] [] h2 rfl (fun _ => ?_) (fun _ => ?_)
    · exact S_ri 1 (10, [.inr (0, 0), .inl (.int x1), .inl (.int x2), av0, av0], [.inl (.int (-1 : Int32))], h2) rfl rfl
    · refine S_br 3 11 9 [.inr (0, 0), .inl (.int x1), .inl (.int x2), av0, av0] [] h2 rfl (fun _ => ?_) (fun _ => ?_)
      · refine S_dl 5 16 21 4 [.inr (0, 0), .inl (.int x1), .inl (.int x2), av0, av0] [.inl (.int x2), .inl (.int x1), .inr (29, 0), .inr (0, 0)] [.inr (29, 0), .inl (.int x1), .inl (.int x2), av0, av0, av0, av0, av0] [.inr (0, 0), .inl (.int x1), .inl (.int x2), av0, av0] [.inr (0, 0)] h2 rfl rfl pp_21 (by decide) (s_X2_shareOfLoss x1 x2 h2) (fun y3 h4 => ?_)
        refine S_blk 6 (23, [.inr (0, 0), .inl (.int x1), .inl (.int x2), .inl (.int (0 : Int32)), av0], [], (hsL (hsL h4 0 0 15 y3) 0 0 16 (1 : Int64))) rfl ?_
        refine S_nrm [.inr (0, 0), av0, .inl (.int x2), .inl (.int (0 : Int32)), av0] rfl ?_
        refine S_lp 34 (fun v => [.inr (0, 0), av0, av0, av0, av0]) (sl_X11_odds_23 x2 FU (0 : Int32) (hsL (hsL h4 0 0 15 y3) 0 0 16 (1 : Int64))) (fun v h => ?_)
        exact sc_X11_odds_34 h
      · exact S_ri 1 (10, [.inr (0, 0), .inl (.int x1), .inl (.int x2), av0, av0], [.inl (.int (-1 : Int32))], h2) rfl rfl
theorem sb_X12_lossFrom_28 (D : Nat) (R : Int32 → Int32 → Int64 → AH → Option (Int64 × AH)) (rc : Int32 → Int64 → Int32 → Int64 → Int32 → Int32 → AH → Option (Int64 × AH)) (x2 : Int32) (x3 : Int64) (x5 : Int32) (x6 : Int64) (x8 : Int32) (x9 : Int32) (hR : ∀ (x1 : Int32) (x2 : Int32) (x3 : Int64) (h : AH), Sim PP (D + 3) k_X12_lossFrom (0, [.inr (34, 0), .inl (.int x1), .inl (.int x2), .inl (.long x3), av0, av0, av0, av0, av0, av0], [], h) (R x1 x2 x3 h) fL) (hrc : ∀ (x6 : Int64) (x9 : Int32) (h : AH), Sim PP (D + 1 + 3) k_X12_lossFrom (28, [.inr (34, 0), av0, .inl (.int x2), .inl (.long x3), av0, .inl (.int x5), .inl (.long x6), av0, .inl (.int x8), .inl (.int x9)], [], h) (rc x2 x3 x5 x6 x8 x9 h) (fE PP (D + 1 + 3) k_X12_lossFrom 65 (fun v => [.inr (34, 0), av0, .inl (.int x2), .inl (.long x3), av0, .inl (.int x5), .inl (.long v), av0, .inl (.int x8), av0])))  (h : AH) : Sim PP (D + 1 + 3) k_X12_lossFrom (28, [.inr (34, 0), av0, .inl (.int x2), .inl (.long x3), av0, .inl (.int x5), .inl (.long x6), av0, .inl (.int x8), .inl (.int x9)], [], h) (b_X12_lossFrom_28 R rc x2 x3 x5 x6 x8 x9 h) (fE PP (D + 1 + 3) k_X12_lossFrom 65 (fun v => [.inr (34, 0), av0, .inl (.int x2), .inl (.long x3), av0, .inl (.int x5), .inl (.long v), av0, .inl (.int x8), av0])) := by
  unfold b_X12_lossFrom_28
  refine S_br 4 65 32 [.inr (34, 0), av0, .inl (.int x2), .inl (.long x3), av0, .inl (.int x5), .inl (.long x6), av0, .inl (.int x8), .inl (.int x9)] [] h rfl (fun _ => ?_) (fun _ => ?_)
  · exact S_ex x6 (fun v => [.inr (34, 0), av0, .inl (.int x2), .inl (.long x3), av0, .inl (.int x5), .inl (.long v), av0, .inl (.int x8), av0]) rfl
  · refine S_di 2 34 155 0 [.inr (34, 0), av0, .inl (.int x2), .inl (.long x3), av0, .inl (.int x5), .inl (.long x6), av0, .inl (.int x8), .inl (.int x9)] [.inl (.int x8), .inl (.int x5)] [.inl (.int x5), .inl (.int x8)] [.inr (34, 0), av0, .inl (.int x2), .inl (.long x3), av0, .inl (.int x5), .inl (.long x6), av0, .inl (.int x8), .inl (.int x9)] [] h rfl rfl pp_155 (by omega) (s_X12_has x5 x8 h) (fun y1 h2 => ?_)
    refine S_br 1 63 36 [.inr (34, 0), av0, .inl (.int x2), .inl (.long x3), av0, .inl (.int x5), .inl (.long x6), av0, .inl (.int x8), .inl (.int x9)] [] h2 rfl (fun _ => ?_) (fun _ => ?_)
    · refine S_blk 2 (28, [.inr (34, 0), av0, .inl (.int x2), .inl (.long x3), av0, .inl (.int x5), .inl (.long x6), av0, .inl (.int x8), .inl (.int (x9 + (1 : Int32)))], [], h2) rfl ?_
      refine S_nrm [.inr (34, 0), av0, .inl (.int x2), .inl (.long x3), av0, .inl (.int x5), .inl (.long x6), av0, .inl (.int x8), .inl (.int (x9 + (1 : Int32)))] rfl ?_
      exact hrc x6 (x9 + (1 : Int32)) h2
    · refine S_grd 4 (40, [.inr (34, 0), av0, .inl (.int x2), .inl (.long x3), av0, .inl (.int x5), .inl (.long x6), av0, .inl (.int x8), .inl (.int x9)], [.inl (.int (h2.1 43 0 x8.toNatClampNeg))], h2) rfl (fun _ => ?_)
      refine S_di 1 41 155 0 [.inr (34, 0), av0, .inl (.int x2), .inl (.long x3), av0, .inl (.int x5), .inl (.long x6), av0, .inl (.int x8), .inl (.int x9)] [.inl (.int x9), .inl (.int (h2.1 43 0 x8.toNatClampNeg))] [.inl (.int (h2.1 43 0 x8.toNatClampNeg)), .inl (.int x9)] [.inr (34, 0), av0, .inl (.int x2), .inl (.long x3), av0, .inl (.int x5), .inl (.long x6), av0, .inl (.int x8), .inl (.int x9)] [] h2 rfl rfl pp_155 (by omega) (s_X12_has (h2.1 43 0 x8.toNatClampNeg) x9 h2) (fun y3 h4 => ?_)
      refine S_br 1 63 43 [.inr (34, 0), av0, .inl (.int x2), .inl (.long x3), av0, .inl (.int x5), .inl (.long x6), av0, .inl (.int x8), .inl (.int x9)] [] h4 rfl (fun _ => ?_) (fun _ => ?_)
      · refine S_blk 2 (28, [.inr (34, 0), av0, .inl (.int x2), .inl (.long x3), av0, .inl (.int x5), .inl (.long x6), av0, .inl (.int x8), .inl (.int (x9 + (1 : Int32)))], [], h4) rfl ?_
        refine S_nrm [.inr (34, 0), av0, .inl (.int x2), .inl (.long x3), av0, .inl (.int x5), .inl (.long x6), av0, .inl (.int x8), .inl (.int (x9 + (1 : Int32)))] rfl ?_
        exact hrc x6 (x9 + (1 : Int32)) h4
      · refine S_di 8 51 156 0 [.inr (34, 0), av0, .inl (.int x2), .inl (.long x3), av0, .inl (.int x5), .inl (.long x6), av0, .inl (.int x8), .inl (.int x9)] [.inl (.int x5), .inl (.long x3), .inl (.int (x2 - (1 : Int32))), .inl (.int x9), .inr (34, 0), .inl (.long x6)] [.inl (.int x5), av0, av0] [.inr (34, 0), av0, .inl (.int x2), .inl (.long x3), av0, .inl (.int x5), .inl (.long x6), av0, .inl (.int x8), .inl (.int x9)] [.inl (.long x3), .inl (.int (x2 - (1 : Int32))), .inl (.int x9), .inr (34, 0), .inl (.long x6)] h4 rfl rfl pp_156 (by omega) (s_X12_bits x5 h4) (fun y5 h6 => ?_)
        refine S_grd 4 (56, [.inr (34, 0), av0, .inl (.int x2), .inl (.long x3), av0, .inl (.int x5), .inl (.long x6), av0, .inl (.int x8), .inl (.int x9)], [.inl (.int (h6.1 43 0 x8.toNatClampNeg)), .inl (.int y5), .inl (.long x3), .inl (.int (x2 - (1 : Int32))), .inl (.int x9), .inr (34, 0), .inl (.long x6)], h6) rfl (fun _ => ?_)
        refine S_di 0 56 156 0 [.inr (34, 0), av0, .inl (.int x2), .inl (.long x3), av0, .inl (.int x5), .inl (.long x6), av0, .inl (.int x8), .inl (.int x9)] [.inl (.int (h6.1 43 0 x8.toNatClampNeg)), .inl (.int y5), .inl (.long x3), .inl (.int (x2 - (1 : Int32))), .inl (.int x9), .inr (34, 0), .inl (.long x6)] [.inl (.int (h6.1 43 0 x8.toNatClampNeg)), av0, av0] [.inr (34, 0), av0, .inl (.int x2), .inl (.long x3), av0, .inl (.int x5), .inl (.long x6), av0, .inl (.int x8), .inl (.int x9)] [.inl (.int y5), .inl (.long x3), .inl (.int (x2 - (1 : Int32))), .inl (.int x9), .inr (34, 0), .inl (.long x6)] h6 rfl rfl pp_156 (by omega) (s_X12_bits (h6.1 43 0 x8.toNatClampNeg) h6) (fun y7 h8 => ?_)
        refine S_grn 3 (60, [.inr (34, 0), av0, .inl (.int x2), .inl (.long x3), av0, .inl (.int x5), .inl (.long x6), av0, .inl (.int x8), .inl (.int x9)], [.inl (.long (x3 / ((y5 * y7).toInt64))), .inl (.int (x2 - (1 : Int32))), .inl (.int x9), .inr (34, 0), .inl (.long x6)], h8) rfl (fun _ => ?_)
        refine S_dl 0 60 262 (D + 3) [.inr (34, 0), av0, .inl (.int x2), .inl (.long x3), av0, .inl (.int x5), .inl (.long x6), av0, .inl (.int x8), .inl (.int x9)] [.inl (.long (x3 / ((y5 * y7).toInt64))), .inl (.int (x2 - (1 : Int32))), .inl (.int x9), .inr (34, 0), .inl (.long x6)] [.inr (34, 0), .inl (.int x9), .inl (.int (x2 - (1 : Int32))), .inl (.long (x3 / ((y5 * y7).toInt64))), av0, av0, av0, av0, av0, av0] [.inr (34, 0), av0, .inl (.int x2), .inl (.long x3), av0, .inl (.int x5), .inl (.long x6), av0, .inl (.int x8), .inl (.int x9)] [.inl (.long x6)] h8 rfl rfl pp_262 (by omega) (hR x9 (x2 - (1 : Int32)) (x3 / ((y5 * y7).toInt64)) h8) (fun y9 h10 => ?_)
        refine S_blk 4 (28, [.inr (34, 0), av0, .inl (.int x2), .inl (.long x3), av0, .inl (.int x5), .inl (.long (x6 + y9)), av0, .inl (.int x8), .inl (.int (x9 + (1 : Int32)))], [], h10) rfl ?_
        refine S_nrm [.inr (34, 0), av0, .inl (.int x2), .inl (.long x3), av0, .inl (.int x5), .inl (.long (x6 + y9)), av0, .inl (.int x8), .inl (.int (x9 + (1 : Int32)))] rfl ?_
        exact hrc (x6 + y9) (x9 + (1 : Int32)) h10
theorem sl_X12_lossFrom_28 (D : Nat) (R : Int32 → Int32 → Int64 → AH → Option (Int64 × AH)) (hR : ∀ (x1 : Int32) (x2 : Int32) (x3 : Int64) (h : AH), Sim PP (D + 3) k_X12_lossFrom (0, [.inr (34, 0), .inl (.int x1), .inl (.int x2), .inl (.long x3), av0, av0, av0, av0, av0, av0], [], h) (R x1 x2 x3 h) fL) (x2 : Int32) (x3 : Int64) (x5 : Int32) (x8 : Int32) : ∀ (F : Nat) (x6 : Int64) (x9 : Int32) (h : AH), Sim PP (D + 1 + 3) k_X12_lossFrom (28, [.inr (34, 0), av0, .inl (.int x2), .inl (.long x3), av0, .inl (.int x5), .inl (.long x6), av0, .inl (.int x8), .inl (.int x9)], [], h) (l_X12_lossFrom_28 R F x2 x3 x5 x6 x8 x9 h) (fE PP (D + 1 + 3) k_X12_lossFrom 65 (fun v => [.inr (34, 0), av0, .inl (.int x2), .inl (.long x3), av0, .inl (.int x5), .inl (.long v), av0, .inl (.int x8), av0])) := by
  intro F
  induction F with
  | zero => intro x6 x9 h; exact S_none
  | succ F ih => intro x6 x9 h; exact sb_X12_lossFrom_28 D R (l_X12_lossFrom_28 R F) x2 x3 x5 x6 x8 x9 hR ih h
theorem sc_X12_lossFrom_65 (D : Nat) (R : Int32 → Int32 → Int64 → AH → Option (Int64 × AH)) (rc : Int32 → Int64 → Int32 → Int64 → Int32 → AH → Option (Int64 × AH))  (x2 : Int32) (x3 : Int64) (x5 : Int32) (x6 : Int64) (x8 : Int32) (hR : ∀ (x1 : Int32) (x2 : Int32) (x3 : Int64) (h : AH), Sim PP (D + 3) k_X12_lossFrom (0, [.inr (34, 0), .inl (.int x1), .inl (.int x2), .inl (.long x3), av0, av0, av0, av0, av0, av0], [], h) (R x1 x2 x3 h) fL) (hrc : ∀ (x6 : Int64) (x8 : Int32) (h : AH), Sim PP (D + 1 + 3) k_X12_lossFrom (22, [.inr (34, 0), av0, .inl (.int x2), .inl (.long x3), av0, .inl (.int x5), .inl (.long x6), av0, .inl (.int x8), av0], [], h) (rc x2 x3 x5 x6 x8 h) (fE PP (D + 1 + 3) k_X12_lossFrom 67 (fun v => [av0, av0, av0, av0, av0, av0, .inl (.long v), av0, av0, av0]))) (h : AH) : Sim PP (D + 1 + 3) k_X12_lossFrom (65, [.inr (34, 0), av0, .inl (.int x2), .inl (.long x3), av0, .inl (.int x5), .inl (.long x6), av0, .inl (.int x8), av0], [], h) (c_X12_lossFrom_65 R rc x2 x3 x5 x6 x8 h) (fE PP (D + 1 + 3) k_X12_lossFrom 67 (fun v => [av0, av0, av0, av0, av0, av0, .inl (.long v), av0, av0, av0])) := by
  unfold c_X12_lossFrom_65
  refine S_blk 2 (22, [.inr (34, 0), av0, .inl (.int x2), .inl (.long x3), av0, .inl (.int x5), .inl (.long x6), av0, .inl (.int (x8 + (1 : Int32))), av0], [], h) rfl ?_
  refine S_nrm [.inr (34, 0), av0, .inl (.int x2), .inl (.long x3), av0, .inl (.int x5), .inl (.long x6), av0, .inl (.int (x8 + (1 : Int32))), av0] rfl ?_
  exact hrc x6 (x8 + (1 : Int32)) h
theorem sb_X12_lossFrom_22 (D : Nat) (R : Int32 → Int32 → Int64 → AH → Option (Int64 × AH)) (rc : Int32 → Int64 → Int32 → Int64 → Int32 → AH → Option (Int64 × AH)) (x2 : Int32) (x3 : Int64) (x5 : Int32) (x6 : Int64) (x8 : Int32) (hR : ∀ (x1 : Int32) (x2 : Int32) (x3 : Int64) (h : AH), Sim PP (D + 3) k_X12_lossFrom (0, [.inr (34, 0), .inl (.int x1), .inl (.int x2), .inl (.long x3), av0, av0, av0, av0, av0, av0], [], h) (R x1 x2 x3 h) fL) (hrc : ∀ (x6 : Int64) (x8 : Int32) (h : AH), Sim PP (D + 1 + 3) k_X12_lossFrom (22, [.inr (34, 0), av0, .inl (.int x2), .inl (.long x3), av0, .inl (.int x5), .inl (.long x6), av0, .inl (.int x8), av0], [], h) (rc x2 x3 x5 x6 x8 h) (fE PP (D + 1 + 3) k_X12_lossFrom 67 (fun v => [av0, av0, av0, av0, av0, av0, .inl (.long v), av0, av0, av0])))  (h : AH) : Sim PP (D + 1 + 3) k_X12_lossFrom (22, [.inr (34, 0), av0, .inl (.int x2), .inl (.long x3), av0, .inl (.int x5), .inl (.long x6), av0, .inl (.int x8), av0], [], h) (b_X12_lossFrom_22 R rc x2 x3 x5 x6 x8 h) (fE PP (D + 1 + 3) k_X12_lossFrom 67 (fun v => [av0, av0, av0, av0, av0, av0, .inl (.long v), av0, av0, av0])) := by
  unfold b_X12_lossFrom_22
  refine S_br 4 67 26 [.inr (34, 0), av0, .inl (.int x2), .inl (.long x3), av0, .inl (.int x5), .inl (.long x6), av0, .inl (.int x8), av0] [] h rfl (fun _ => ?_) (fun _ => ?_)
  · exact S_ex x6 (fun v => [av0, av0, av0, av0, av0, av0, .inl (.long v), av0, av0, av0]) rfl
  · refine S_blk 2 (28, [.inr (34, 0), av0, .inl (.int x2), .inl (.long x3), av0, .inl (.int x5), .inl (.long x6), av0, .inl (.int x8), .inl (.int (0 : Int32))], [], h) rfl ?_
    refine S_nrm [.inr (34, 0), av0, .inl (.int x2), .inl (.long x3), av0, .inl (.int x5), .inl (.long x6), av0, .inl (.int x8), .inl (.int (0 : Int32))] rfl ?_
    refine S_lp 65 (fun v => [.inr (34, 0), av0, .inl (.int x2), .inl (.long x3), av0, .inl (.int x5), .inl (.long v), av0, .inl (.int x8), av0]) (sl_X12_lossFrom_28 D R hR x2 x3 x5 x8 FU x6 (0 : Int32) h) (fun v h => ?_)
    exact sc_X12_lossFrom_65 D R rc x2 x3 x5 v x8 hR hrc h
theorem sl_X12_lossFrom_22 (D : Nat) (R : Int32 → Int32 → Int64 → AH → Option (Int64 × AH)) (hR : ∀ (x1 : Int32) (x2 : Int32) (x3 : Int64) (h : AH), Sim PP (D + 3) k_X12_lossFrom (0, [.inr (34, 0), .inl (.int x1), .inl (.int x2), .inl (.long x3), av0, av0, av0, av0, av0, av0], [], h) (R x1 x2 x3 h) fL) (x2 : Int32) (x3 : Int64) (x5 : Int32) : ∀ (F : Nat) (x6 : Int64) (x8 : Int32) (h : AH), Sim PP (D + 1 + 3) k_X12_lossFrom (22, [.inr (34, 0), av0, .inl (.int x2), .inl (.long x3), av0, .inl (.int x5), .inl (.long x6), av0, .inl (.int x8), av0], [], h) (l_X12_lossFrom_22 R F x2 x3 x5 x6 x8 h) (fE PP (D + 1 + 3) k_X12_lossFrom 67 (fun v => [av0, av0, av0, av0, av0, av0, .inl (.long v), av0, av0, av0])) := by
  intro F
  induction F with
  | zero => intro x6 x8 h; exact S_none
  | succ F ih => intro x6 x8 h; exact sb_X12_lossFrom_22 D R (l_X12_lossFrom_22 R F) x2 x3 x5 x6 x8 hR ih h
theorem sc_X12_lossFrom_67 (D : Nat) (R : Int32 → Int32 → Int64 → AH → Option (Int64 × AH))  (x6 : Int64) (hR : ∀ (x1 : Int32) (x2 : Int32) (x3 : Int64) (h : AH), Sim PP (D + 3) k_X12_lossFrom (0, [.inr (34, 0), .inl (.int x1), .inl (.int x2), .inl (.long x3), av0, av0, av0, av0, av0, av0], [], h) (R x1 x2 x3 h) fL) (h : AH) : Sim PP (D + 1 + 3) k_X12_lossFrom (67, [av0, av0, av0, av0, av0, av0, .inl (.long x6), av0, av0, av0], [], h) (c_X12_lossFrom_67 R x6 h) fL := by
  unfold c_X12_lossFrom_67
  exact S_rl 1 (68, [av0, av0, av0, av0, av0, av0, .inl (.long x6), av0, av0, av0], [.inl (.long x6)], h) rfl rfl
theorem sg_X12_lossFrom (D : Nat) (R : Int32 → Int32 → Int64 → AH → Option (Int64 × AH)) (hR : ∀ (x1 : Int32) (x2 : Int32) (x3 : Int64) (h : AH), Sim PP (D + 3) k_X12_lossFrom (0, [.inr (34, 0), .inl (.int x1), .inl (.int x2), .inl (.long x3), av0, av0, av0, av0, av0, av0], [], h) (R x1 x2 x3 h) fL) (x1 : Int32) (x2 : Int32) (x3 : Int64) (h : AH) : Sim PP (D + 1 + 3) k_X12_lossFrom (0, [.inr (34, 0), .inl (.int x1), .inl (.int x2), .inl (.long x3), av0, av0, av0, av0, av0, av0], [], h) (g_X12_lossFrom R x1 x2 x3 h) fL := by
  unfold g_X12_lossFrom
  refine S_di 2 2 199 2 [.inr (34, 0), .inl (.int x1), .inl (.int x2), .inl (.long x3), av0, av0, av0, av0, av0, av0] [.inl (.int x1), .inr (34, 0)] [.inr (34, 0), .inl (.int x1)] [.inr (34, 0), .inl (.int x1), .inl (.int x2), .inl (.long x3), av0, av0, av0, av0, av0, av0] [] h rfl rfl pp_199 (by omega) (s_X12_isAtLoss x1 h) (fun y1 h2 => ?_)
  refine S_br 1 6 4 [.inr (34, 0), .inl (.int x1), .inl (.int x2), .inl (.long x3), av0, av0, av0, av0, av0, av0] [] h2 rfl (fun _ => ?_) (fun _ => ?_)
  · refine S_di 2 8 193 1 [.inr (34, 0), .inl (.int x1), .inl (.int x2), .inl (.long x3), av0, av0, av0, av0, av0, av0] [.inl (.int x1), .inr (34, 0)] [.inr (34, 0), .inl (.int x1)] [.inr (34, 0), .inl (.int x1), .inl (.int x2), .inl (.long x3), av0, av0, av0, av0, av0, av0] [] h2 rfl rfl pp_193 (by omega) (s_X12_isEnd x1 h2) (fun y3 h4 => ?_)
    refine S_br 1 10 12 [.inr (34, 0), .inl (.int x1), .inl (.int x2), .inl (.long x3), av0, av0, av0, av0, av0, av0] [] h4 rfl (fun _ => ?_) (fun _ => ?_)
    · refine S_br 2 12 14 [.inr (34, 0), .inl (.int x1), .inl (.int x2), .inl (.long x3), av0, av0, av0, av0, av0, av0] [] h4 rfl (fun _ => ?_) (fun _ => ?_)
      · exact S_rl 1 (13, [.inr (34, 0), .inl (.int x1), .inl (.int x2), .inl (.long x3), av0, av0, av0, av0, av0, av0], [.inl (.long (0 : Int64))], h4) rfl rfl
      · refine S_di 2 16 198 1 [.inr (34, 0), .inl (.int x1), .inl (.int x2), .inl (.long x3), av0, av0, av0, av0, av0, av0] [.inl (.int x1), .inr (34, 0)] [.inr (34, 0), .inl (.int x1), av0, av0] [.inr (34, 0), .inl (.int x1), .inl (.int x2), .inl (.long x3), av0, av0, av0, av0, av0, av0] [] h4 rfl rfl pp_198 (by omega) (s_X12_usableFor x1 h4) (fun y5 h6 => ?_)
        refine S_blk 5 (22, [.inr (34, 0), .inl (.int x1), .inl (.int x2), .inl (.long x3), av0, .inl (.int y5), .inl (.long (0 : Int64)), av0, .inl (.int (0 : Int32)), av0], [], h6) rfl ?_
        refine S_nrm [.inr (34, 0), av0, .inl (.int x2), .inl (.long x3), av0, .inl (.int y5), .inl (.long (0 : Int64)), av0, .inl (.int (0 : Int32)), av0] rfl ?_
        refine S_lp 67 (fun v => [av0, av0, av0, av0, av0, av0, .inl (.long v), av0, av0, av0]) (sl_X12_lossFrom_22 D R hR x2 x3 y5 FU (0 : Int64) (0 : Int32) h6) (fun v h => ?_)
        exact sc_X12_lossFrom_67 D R v hR h
    · exact S_rl 1 (13, [.inr (34, 0), .inl (.int x1), .inl (.int x2), .inl (.long x3), av0, av0, av0, av0, av0, av0], [.inl (.long (0 : Int64))], h4) rfl rfl
  · exact S_rl 1 (5, [.inr (34, 0), .inl (.int x1), .inl (.int x2), .inl (.long x3), av0, av0, av0, av0, av0, av0], [.inl (.long x3)], h2) rfl rfl
theorem s_X12_lossFrom : ∀ (D : Nat) (x1 : Int32) (x2 : Int32) (x3 : Int64) (h : AH), Sim PP (D + 3) k_X12_lossFrom (0, [.inr (34, 0), .inl (.int x1), .inl (.int x2), .inl (.long x3), av0, av0, av0, av0, av0, av0], [], h) (f_X12_lossFrom D x1 x2 x3 h) fL := by
  intro D
  induction D with
  | zero => intro x1 x2 x3 h; exact S_none
  | succ D ih => intro x1 x2 x3 h; exact sg_X12_lossFrom D _ ih x1 x2 x3 h
theorem sb_X12_part_4  (rc : Int64 → Int64 → Int64 → Int64 → AH → Option (Int64 × AH)) (x1 : Int64) (x3 : Int64) (x5 : Int64) (x7 : Int64) (hrc : ∀ (x5 : Int64) (x7 : Int64) (h : AH), Sim PP (0) k_X12_part (4, [.inr (34, 0), .inl (.long x1), av0, .inl (.long x3), av0, .inl (.long x5), av0, .inl (.long x7), av0, av0, av0], [], h) (rc x1 x3 x5 x7 h) (fE PP (0) k_X12_part 17 (fun v => [.inr (34, 0), .inl (.long x1), av0, .inl (.long x3), av0, .inl (.long v), av0, av0, av0, av0, av0])))  (h : AH) : Sim PP (0) k_X12_part (4, [.inr (34, 0), .inl (.long x1), av0, .inl (.long x3), av0, .inl (.long x5), av0, .inl (.long x7), av0, av0, av0], [], h) (b_X12_part_4 rc x1 x3 x5 x7 h) (fE PP (0) k_X12_part 17 (fun v => [.inr (34, 0), .inl (.long x1), av0, .inl (.long x3), av0, .inl (.long v), av0, av0, av0, av0, av0])) := by
  unfold b_X12_part_4
  refine S_br 4 17 8 [.inr (34, 0), .inl (.long x1), av0, .inl (.long x3), av0, .inl (.long x5), av0, .inl (.long x7), av0, av0, av0] [] h rfl (fun _ => ?_) (fun _ => ?_)
  · exact S_ex x5 (fun v => [.inr (34, 0), .inl (.long x1), av0, .inl (.long x3), av0, .inl (.long v), av0, av0, av0, av0, av0]) rfl
  · refine S_grn 3 (11, [.inr (34, 0), .inl (.long x1), av0, .inl (.long x3), av0, .inl (.long x5), av0, .inl (.long x7), av0, av0, av0], [.inl (.long (x5 - x5 / x7 * x7))], h) rfl (fun _ => ?_)
    refine S_blk 6 (4, [.inr (34, 0), .inl (.long x1), av0, .inl (.long x3), av0, .inl (.long x7), av0, .inl (.long (x5 - x5 / x7 * x7)), av0, .inl (.long (x5 - x5 / x7 * x7)), av0], [], h) rfl ?_
    refine S_nrm [.inr (34, 0), .inl (.long x1), av0, .inl (.long x3), av0, .inl (.long x7), av0, .inl (.long (x5 - x5 / x7 * x7)), av0, av0, av0] rfl ?_
    exact hrc x7 (x5 - x5 / x7 * x7) h
theorem sl_X12_part_4    (x1 : Int64) (x3 : Int64) : ∀ (F : Nat) (x5 : Int64) (x7 : Int64) (h : AH), Sim PP (0) k_X12_part (4, [.inr (34, 0), .inl (.long x1), av0, .inl (.long x3), av0, .inl (.long x5), av0, .inl (.long x7), av0, av0, av0], [], h) (l_X12_part_4 F x1 x3 x5 x7 h) (fE PP (0) k_X12_part 17 (fun v => [.inr (34, 0), .inl (.long x1), av0, .inl (.long x3), av0, .inl (.long v), av0, av0, av0, av0, av0])) := by
  intro F
  induction F with
  | zero => intro x5 x7 h; exact S_none
  | succ F ih => intro x5 x7 h; exact sb_X12_part_4 (l_X12_part_4 F) x1 x3 x5 x7 ih h
theorem sc_X12_part_17    (x1 : Int64) (x3 : Int64) (x5 : Int64)  (h : AH) : Sim PP (0) k_X12_part (17, [.inr (34, 0), .inl (.long x1), av0, .inl (.long x3), av0, .inl (.long x5), av0, av0, av0, av0, av0], [], h) (c_X12_part_17  x1 x3 x5 h) fI := by
  unfold c_X12_part_17
  refine S_grn 4 (21, [.inr (34, 0), .inl (.long x1), av0, .inl (.long x3), av0, .inl (.long x5), av0, av0, av0, av0, av0], [.inl (.long (x1 / x5)), .inr (34, 0)], h) rfl (fun _ => ?_)
  refine S_grn 5 (26, [.inr (34, 0), .inl (.long x1), av0, .inl (.long x3), av0, .inl (.long x5), av0, av0, av0, av0, av0], [.inl (.long (x3 / x5)), .inr (34, 0)], (hsL h 34 0 3 (x1 / x5))) rfl (fun _ => ?_)
  exact S_ri 2 (28, [.inr (34, 0), .inl (.long x1), av0, .inl (.long x3), av0, .inl (.long x5), av0, av0, av0, av0, av0], [.inl (.int (1 : Int32))], (hsL (hsL h 34 0 3 (x1 / x5)) 34 0 4 (x3 / x5))) rfl rfl
theorem s_X12_part (x1 : Int64) (x3 : Int64) (h : AH) : Sim PP (0) k_X12_part (0, [.inr (34, 0), .inl (.long x1), av0, .inl (.long x3), av0, av0, av0, av0, av0, av0, av0], [], h) (f_X12_part x1 x3 h) fI := by
  unfold f_X12_part
  refine S_blk 4 (4, [.inr (34, 0), .inl (.long x1), av0, .inl (.long x3), av0, .inl (.long x1), av0, .inl (.long x3), av0, av0, av0], [], h) rfl ?_
  refine S_nrm [.inr (34, 0), .inl (.long x1), av0, .inl (.long x3), av0, .inl (.long x1), av0, .inl (.long x3), av0, av0, av0] rfl ?_
  refine S_lp 17 (fun v => [.inr (34, 0), .inl (.long x1), av0, .inl (.long x3), av0, .inl (.long v), av0, av0, av0, av0, av0]) (sl_X12_part_4 x1 x3 FU x1 x3 h) (fun v h => ?_)
  exact sc_X12_part_17 x1 x3 v h
theorem sb_X12_odds_15  (rc : Int32 → Int32 → Int64 → Int32 → AH → Option (Int64 × AH)) (x1 : Int32) (x2 : Int32) (x3 : Int64) (x5 : Int32) (hrc : ∀ (x3 : Int64) (x5 : Int32) (h : AH), Sim PP (16) k_X12_odds (15, [.inr (34, 0), .inl (.int x1), .inl (.int x2), .inl (.long x3), av0, .inl (.int x5)], [], h) (rc x1 x2 x3 x5 h) (fE PP (16) k_X12_odds 24 (fun v => [.inr (34, 0), .inl (.int x1), .inl (.int x2), .inl (.long v), av0, av0])))  (h : AH) : Sim PP (16) k_X12_odds (15, [.inr (34, 0), .inl (.int x1), .inl (.int x2), .inl (.long x3), av0, .inl (.int x5)], [], h) (b_X12_odds_15 rc x1 x2 x3 x5 h) (fE PP (16) k_X12_odds 24 (fun v => [.inr (34, 0), .inl (.int x1), .inl (.int x2), .inl (.long v), av0, av0])) := by
  unfold b_X12_odds_15
  refine S_br 3 24 18 [.inr (34, 0), .inl (.int x1), .inl (.int x2), .inl (.long x3), av0, .inl (.int x5)] [] h rfl (fun _ => ?_) (fun _ => ?_)
  · exact S_ex x3 (fun v => [.inr (34, 0), .inl (.int x1), .inl (.int x2), .inl (.long v), av0, av0]) rfl
  · refine S_blk 6 (15, [.inr (34, 0), .inl (.int x1), .inl (.int x2), .inl (.long (x3 * (72 : Int64))), av0, .inl (.int (x5 + (1 : Int32)))], [], h) rfl ?_
    refine S_nrm [.inr (34, 0), .inl (.int x1), .inl (.int x2), .inl (.long (x3 * (72 : Int64))), av0, .inl (.int (x5 + (1 : Int32)))] rfl ?_
    exact hrc (x3 * (72 : Int64)) (x5 + (1 : Int32)) h
theorem sl_X12_odds_15    (x1 : Int32) (x2 : Int32) : ∀ (F : Nat) (x3 : Int64) (x5 : Int32) (h : AH), Sim PP (16) k_X12_odds (15, [.inr (34, 0), .inl (.int x1), .inl (.int x2), .inl (.long x3), av0, .inl (.int x5)], [], h) (l_X12_odds_15 F x1 x2 x3 x5 h) (fE PP (16) k_X12_odds 24 (fun v => [.inr (34, 0), .inl (.int x1), .inl (.int x2), .inl (.long v), av0, av0])) := by
  intro F
  induction F with
  | zero => intro x3 x5 h; exact S_none
  | succ F ih => intro x3 x5 h; exact sb_X12_odds_15 (l_X12_odds_15 F) x1 x2 x3 x5 ih h
theorem sc_X12_odds_24    (x1 : Int32) (x2 : Int32) (x3 : Int64)  (h : AH) : Sim PP (16) k_X12_odds (24, [.inr (34, 0), .inl (.int x1), .inl (.int x2), .inl (.long x3), av0, av0], [], h) (c_X12_odds_24  x1 x2 x3 h) fI := by
  unfold c_X12_odds_24
  refine S_dl 5 29 262 15 [.inr (34, 0), .inl (.int x1), .inl (.int x2), .inl (.long x3), av0, av0] [.inl (.long x3), .inl (.int x2), .inl (.int x1), .inr (34, 0), .inr (34, 0)] [.inr (34, 0), .inl (.int x1), .inl (.int x2), .inl (.long x3), av0, av0, av0, av0, av0, av0] [.inr (34, 0), .inl (.int x1), .inl (.int x2), .inl (.long x3), av0, av0] [.inr (34, 0)] h rfl rfl pp_262 (by decide) (s_X12_lossFrom 12 x1 x2 x3 h) (fun y1 h2 => ?_)
  refine S_di 1 31 164 0 [.inr (34, 0), .inl (.int x1), .inl (.int x2), .inl (.long x3), av0, av0] [.inl (.long x3), .inl (.long y1), .inr (34, 0)] [.inr (34, 0), .inl (.long y1), av0, .inl (.long x3), av0, av0, av0, av0, av0, av0, av0] [.inr (34, 0), .inl (.int x1), .inl (.int x2), .inl (.long x3), av0, av0] [] h2 rfl rfl pp_164 (by decide) (s_X12_part y1 x3 h2) (fun y3 h4 => ?_)
  exact S_ri 0 (32, [.inr (34, 0), .inl (.int x1), .inl (.int x2), .inl (.long x3), av0, av0], [.inl (.int y3)], h4) rfl rfl
theorem s_X12_odds (x1 : Int32) (x2 : Int32) (h : AH) : Sim PP (16) k_X12_odds (0, [.inr (34, 0), .inl (.int x1), .inl (.int x2), av0, av0, av0], [], h) (f_X12_odds x1 x2 h) fI := by
  unfold f_X12_odds
  refine S_di 2 2 189 1 [.inr (34, 0), .inl (.int x1), .inl (.int x2), av0, av0, av0] [.inl (.int x1), .inr (34, 0)] [.inr (34, 0), .inl (.int x1)] [.inr (34, 0), .inl (.int x1), .inl (.int x2), av0, av0, av0] [] h rfl rfl pp_189 (by decide) (s_X12_isClaim x1 h) (fun y1 h2 => ?_)
  refine S_br 1 9 4 [.inr (34, 0), .inl (.int x1), .inl (.int x2), av0, av0, av0] [] h2 rfl (fun _ => ?_) (fun _ => ?_)
  · exact S_ri 1 (10, [.inr (34, 0), .inl (.int x1), .inl (.int x2), av0, av0, av0], [.inl (.int (-1 : Int32))], h2) rfl rfl
  · refine S_di 3 7 154 0 [.inr (34, 0), .inl (.int x1), .inl (.int x2), av0, av0, av0] [.inl (.int (6 : Int32)), .inl (.int (0 : Int32)), .inl (.int x2)] [.inl (.int x2), .inl (.int (0 : Int32)), .inl (.int (6 : Int32))] [.inr (34, 0), .inl (.int x1), .inl (.int x2), av0, av0, av0] [] h2 rfl rfl pp_154 (by decide) (s_X12_in x2 (0 : Int32) (6 : Int32) h2) (fun y3 h4 => ?_)
    refine S_br 1 9 11 [.inr (34, 0), .inl (.int x1), .inl (.int x2), av0, av0, av0] [] h4 rfl (fun _ => ?_) (fun _ => ?_)
    · exact S_ri 1 (10, [.inr (34, 0), .inl (.int x1), .inl (.int x2), av0, av0, av0], [.inl (.int (-1 : Int32))], h4) rfl rfl
    · refine S_blk 4 (15, [.inr (34, 0), .inl (.int x1), .inl (.int x2), .inl (.long (1 : Int64)), av0, .inl (.int (0 : Int32))], [], h4) rfl ?_
      refine S_nrm [.inr (34, 0), .inl (.int x1), .inl (.int x2), .inl (.long (1 : Int64)), av0, .inl (.int (0 : Int32))] rfl ?_
      refine S_lp 24 (fun v => [.inr (34, 0), .inl (.int x1), .inl (.int x2), .inl (.long v), av0, av0]) (sl_X12_odds_15 x1 x2 FU (1 : Int64) (0 : Int32) h4) (fun v h => ?_)
      exact sc_X12_odds_24 x1 x2 v h
theorem sb_X2_drawn_14  (rc : Int32 → Int64 → Int32 → AH → Option (Int32 × AH)) (x0 : Int32) (x4 : Int64) (x6 : Int32) (hrc : ∀ (x0 : Int32) (x4 : Int64) (x6 : Int32) (h : AH), Sim PP (1) k_X2_drawn (14, [.inl (.int x0), av0, av0, av0, .inl (.long x4), av0, .inl (.int x6)], [], h) (rc x0 x4 x6 h) fI)  (h : AH) : Sim PP (1) k_X2_drawn (14, [.inl (.int x0), av0, av0, av0, .inl (.long x4), av0, .inl (.int x6)], [], h) (b_X2_drawn_14 rc x0 x4 x6 h) fI := by
  unfold b_X2_drawn_14
  refine S_br 3 33 17 [.inl (.int x0), av0, av0, av0, .inl (.long x4), av0, .inl (.int x6)] [] h rfl (fun _ => ?_) (fun _ => ?_)
  · exact S_ri 1 (34, [av0, av0, av0, av0, av0, av0, av0], [.inl (.int (0 : Int32))], h) rfl rfl
  · refine S_di 2 19 138 0 [.inl (.int x0), av0, av0, av0, .inl (.long x4), av0, .inl (.int x6)] [.inl (.int x6), .inl (.int x0)] [.inl (.int x0), .inl (.int x6)] [.inl (.int x0), av0, av0, av0, .inl (.long x4), av0, .inl (.int x6)] [] h rfl rfl pp_138 (by decide) (s_X11_has x0 x6 h) (fun y1 h2 => ?_)
    refine S_br 1 31 21 [.inl (.int x0), av0, av0, av0, .inl (.long x4), av0, .inl (.int x6)] [] h2 rfl (fun _ => ?_) (fun _ => ?_)
    · refine S_blk 2 (14, [.inl (.int x0), av0, av0, av0, .inl (.long x4), av0, .inl (.int (x6 + (1 : Int32)))], [], h2) rfl ?_
      refine S_nrm [.inl (.int x0), av0, av0, av0, .inl (.long x4), av0, .inl (.int (x6 + (1 : Int32)))] rfl ?_
      exact hrc x0 x4 (x6 + (1 : Int32)) h2
    · refine S_br 4 25 27 [.inl (.int x0), av0, av0, av0, .inl (.long x4), av0, .inl (.int x6)] [] h2 rfl (fun _ => ?_) (fun _ => ?_)
      · exact S_ri 1 (26, [av0, av0, av0, av0, av0, av0, .inl (.int x6)], [.inl (.int x6)], h2) rfl rfl
      · refine S_blk 6 (14, [.inl (.int x0), av0, av0, av0, .inl (.long (x4 - (1 : Int64))), av0, .inl (.int (x6 + (1 : Int32)))], [], h2) rfl ?_
        refine S_nrm [.inl (.int x0), av0, av0, av0, .inl (.long (x4 - (1 : Int64))), av0, .inl (.int (x6 + (1 : Int32)))] rfl ?_
        exact hrc x0 (x4 - (1 : Int64)) (x6 + (1 : Int32)) h2
theorem sl_X2_drawn_14     : ∀ (F : Nat) (x0 : Int32) (x4 : Int64) (x6 : Int32) (h : AH), Sim PP (1) k_X2_drawn (14, [.inl (.int x0), av0, av0, av0, .inl (.long x4), av0, .inl (.int x6)], [], h) (l_X2_drawn_14 F x0 x4 x6 h) fI := by
  intro F
  induction F with
  | zero => intro x0 x4 x6 h; exact S_none
  | succ F ih => intro x0 x4 x6 h; exact sb_X2_drawn_14 (l_X2_drawn_14 F) x0 x4 x6 ih h
theorem s_X2_drawn (x0 : Int32) (x1 : Int64) (h : AH) : Sim PP (1) k_X2_drawn (0, [.inl (.int x0), .inl (.long x1), av0, av0, av0, av0, av0], [], h) (f_X2_drawn x0 x1 h) fI := by
  unfold f_X2_drawn
  refine S_di 1 1 271 0 [.inl (.int x0), .inl (.long x1), av0, av0, av0, av0, av0] [.inl (.int x0)] [.inl (.int x0)] [.inl (.int x0), .inl (.long x1), av0, av0, av0, av0, av0] [] h rfl rfl pp_271 (by decide) (s_J6_bitCount_0f7a4 x0 h) (fun y1 h2 => ?_)
  refine S_br 3 5 7 [.inl (.int x0), .inl (.long x1), av0, .inl (.int y1), av0, av0, av0] [] h2 rfl (fun _ => ?_) (fun _ => ?_)
  · refine S_blk 5 (14, [.inl (.int x0), .inl (.long x1), av0, .inl (.int y1), .inl (.long (0 : Int64)), av0, .inl (.int (0 : Int32))], [], h2) rfl ?_
    refine S_nrm [.inl (.int x0), av0, av0, av0, .inl (.long (0 : Int64)), av0, .inl (.int (0 : Int32))] rfl ?_
    exact (sl_X2_drawn_14  FU x0 (0 : Int64) (0 : Int32) h2)
  · refine S_grn 4 (11, [.inl (.int x0), .inl (.long x1), av0, .inl (.int y1), av0, av0, av0], [.inl (.long (x1 - x1 / y1.toInt64 * y1.toInt64))], h2) rfl (fun _ => ?_)
    refine S_blk 3 (14, [.inl (.int x0), .inl (.long x1), av0, .inl (.int y1), .inl (.long (x1 - x1 / y1.toInt64 * y1.toInt64)), av0, .inl (.int (0 : Int32))], [], h2) rfl ?_
    refine S_nrm [.inl (.int x0), av0, av0, av0, .inl (.long (x1 - x1 / y1.toInt64 * y1.toInt64)), av0, .inl (.int (0 : Int32))] rfl ?_
    exact (sl_X2_drawn_14  FU x0 (x1 - x1 / y1.toInt64 * y1.toInt64) (0 : Int32) h2)
theorem sb_X2_goOn_5  (rc : Int32 → Int64 → Int32 → AH → Option (Int32 × AH)) (x1 : Int32) (x3 : Int64) (x5 : Int32) (hrc : ∀ (x1 : Int32) (x3 : Int64) (x5 : Int32) (h : AH), Sim PP (3) k_X2_goOn (5, [.inr (29, 0), .inl (.int x1), av0, .inl (.long x3), av0, .inl (.int x5), av0, av0, av0], [], h) (rc x1 x3 x5 h) fI)  (h : AH) : Sim PP (3) k_X2_goOn (5, [.inr (29, 0), .inl (.int x1), av0, .inl (.long x3), av0, .inl (.int x5), av0, av0, av0], [], h) (b_X2_goOn_5 rc x1 x3 x5 h) fI := by
  unfold b_X2_goOn_5
  refine S_br 3 52 8 [.inr (29, 0), .inl (.int x1), av0, .inl (.long x3), av0, .inl (.int x5), av0, av0, av0] [] h rfl (fun _ => ?_) (fun _ => ?_)
  · exact S_ri 1 (53, [av0, .inl (.int x1), av0, av0, av0, av0, av0, av0, av0], [.inl (.int x1)], h) rfl rfl
  · refine S_di 2 10 62 0 [.inr (29, 0), .inl (.int x1), av0, .inl (.long x3), av0, .inl (.int x5), av0, av0, av0] [.inr (8, 3)] [.inr (8, 3), av0, av0] [.inr (29, 0), .inl (.int x1), av0, .inl (.long x3), av0, .inl (.int x5), av0, av0, av0] [] h rfl rfl pp_62 (by decide) (s_X7_barredBits 3 h) (fun y1 h2 => ?_)
    refine S_di 5 16 58 0 [.inr (29, 0), .inl (.int x1), av0, .inl (.long x3), av0, .inl (.int x5), .inl (.int y1), av0, av0] [.inr (8, 3), .inr (18, 0)] [.inr (8, 3)] [.inr (29, 0), .inl (.int x1), av0, .inl (.long x3), av0, .inl (.int x5), .inl (.int y1), av0, av0] [.inr (18, 0)] h2 rfl rfl pp_58 (by decide) (s_X7_place 3 h2) (fun y3 h4 => ?_)
    refine S_di 1 18 4 2 [.inr (29, 0), .inl (.int x1), av0, .inl (.long x3), av0, .inl (.int x5), .inl (.int y1), av0, av0] [.inl (.int y1), .inl (.int y3), .inr (18, 0)] [.inr (18, 0), .inl (.int y3), .inl (.int y1), av0, av0, av0] [.inr (29, 0), .inl (.int x1), av0, .inl (.long x3), av0, .inl (.int x5), .inl (.int y1), av0, av0] [] h4 rfl rfl pp_4 (by decide) (s_X0_openReasons y3 y1 h4) (fun y5 h6 => ?_)
    refine S_br 3 22 24 [.inr (29, 0), .inl (.int x1), av0, .inl (.long x3), av0, .inl (.int x5), .inl (.int y1), .inl (.int y5), av0] [] h6 rfl (fun _ => ?_) (fun _ => ?_)
    · exact S_ri 1 (23, [av0, av0, av0, av0, av0, .inl (.int x5), av0, av0, av0], [.inl (.int x5)], h6) rfl rfl
    · refine S_gn 5 (c := (2147483647 : Int64) = 0) (29, [.inr (29, 0), .inl (.int x1), av0, .inl (.long x3), av0, .inl (.int x5), .inl (.int y1), .inl (.int y5), av0], [.inl (.long ((x3 * (48271 : Int64)) - (x3 * (48271 : Int64)) / (2147483647 : Int64) * (2147483647 : Int64)))], h6) rfl (by decide) ?_
      refine S_di 3 32 25 1 [.inr (29, 0), .inl (.int x1), av0, .inl (.long ((x3 * (48271 : Int64)) - (x3 * (48271 : Int64)) / (2147483647 : Int64) * (2147483647 : Int64))), av0, .inl (.int x5), .inl (.int y1), .inl (.int y5), av0] [.inl (.long ((x3 * (48271 : Int64)) - (x3 * (48271 : Int64)) / (2147483647 : Int64) * (2147483647 : Int64))), .inl (.int y5)] [.inl (.int y5), .inl (.long ((x3 * (48271 : Int64)) - (x3 * (48271 : Int64)) / (2147483647 : Int64) * (2147483647 : Int64))), av0, av0, av0, av0, av0] [.inr (29, 0), .inl (.int x1), av0, .inl (.long ((x3 * (48271 : Int64)) - (x3 * (48271 : Int64)) / (2147483647 : Int64) * (2147483647 : Int64))), av0, .inl (.int x5), .inl (.int y1), .inl (.int y5), av0] [] h6 rfl rfl pp_25 (by decide) (s_X2_drawn y5 ((x3 * (48271 : Int64)) - (x3 * (48271 : Int64)) / (2147483647 : Int64) * (2147483647 : Int64)) h6) (fun y7 h8 => ?_)
      refine S_grd 8 (41, [.inr (29, 0), .inl (.int x1), av0, .inl (.long ((x3 * (48271 : Int64)) - (x3 * (48271 : Int64)) / (2147483647 : Int64) * (2147483647 : Int64))), av0, .inl (.int x5), .inl (.int y1), .inl (.int y5), .inl (.int y7)], [.inl (.int (h8.1 16 0 y7.toNatClampNeg)), .inr (8, 3)], h8) rfl (fun _ => ?_)
      refine S_gn 7 (c := (64 : Int64) = 0) (48, [.inr (29, 0), .inl (.int x1), av0, .inl (.long ((x3 * (48271 : Int64)) - (x3 * (48271 : Int64)) / (2147483647 : Int64) * (2147483647 : Int64))), av0, .inl (.int x5), .inl (.int y1), .inl (.int y5), .inl (.int y7)], [.inl (.long (((x3 * (48271 : Int64)) - (x3 * (48271 : Int64)) / (2147483647 : Int64) * (2147483647 : Int64)) / (64 : Int64))), .inl (.int ((h8.1 16 0 y7.toNatClampNeg) &&& (y1 ^^^ (-1 : Int32)))), .inr (8, 3)], h8) rfl (by decide) ?_
      refine S_di 0 48 25 1 [.inr (29, 0), .inl (.int x1), av0, .inl (.long ((x3 * (48271 : Int64)) - (x3 * (48271 : Int64)) / (2147483647 : Int64) * (2147483647 : Int64))), av0, .inl (.int x5), .inl (.int y1), .inl (.int y5), .inl (.int y7)] [.inl (.long (((x3 * (48271 : Int64)) - (x3 * (48271 : Int64)) / (2147483647 : Int64) * (2147483647 : Int64)) / (64 : Int64))), .inl (.int ((h8.1 16 0 y7.toNatClampNeg) &&& (y1 ^^^ (-1 : Int32)))), .inr (8, 3)] [.inl (.int ((h8.1 16 0 y7.toNatClampNeg) &&& (y1 ^^^ (-1 : Int32)))), .inl (.long (((x3 * (48271 : Int64)) - (x3 * (48271 : Int64)) / (2147483647 : Int64) * (2147483647 : Int64)) / (64 : Int64))), av0, av0, av0, av0, av0] [.inr (29, 0), .inl (.int x1), av0, .inl (.long ((x3 * (48271 : Int64)) - (x3 * (48271 : Int64)) / (2147483647 : Int64) * (2147483647 : Int64))), av0, .inl (.int x5), .inl (.int y1), .inl (.int y5), .inl (.int y7)] [.inr (8, 3)] h8 rfl rfl pp_25 (by decide) (s_X2_drawn ((h8.1 16 0 y7.toNatClampNeg) &&& (y1 ^^^ (-1 : Int32))) (((x3 * (48271 : Int64)) - (x3 * (48271 : Int64)) / (2147483647 : Int64) * (2147483647 : Int64)) / (64 : Int64)) h8) (fun y9 h10 => ?_)
      refine S_dv 0 49 60 0 [.inr (29, 0), .inl (.int x1), av0, .inl (.long ((x3 * (48271 : Int64)) - (x3 * (48271 : Int64)) / (2147483647 : Int64) * (2147483647 : Int64))), av0, .inl (.int x5), .inl (.int y1), .inl (.int y5), .inl (.int y7)] [.inl (.int y9), .inr (8, 3)] [.inr (8, 3), .inl (.int y9)] [.inr (29, 0), .inl (.int x1), av0, .inl (.long ((x3 * (48271 : Int64)) - (x3 * (48271 : Int64)) / (2147483647 : Int64) * (2147483647 : Int64))), av0, .inl (.int x5), .inl (.int y1), .inl (.int y5), .inl (.int y7)] [] h10 rfl rfl pp_60 (by decide) (s_X7_goTo 3 y9 h10) (fun _ h12 => ?_)
      refine S_blk 2 (5, [.inr (29, 0), .inl (.int x1), av0, .inl (.long ((x3 * (48271 : Int64)) - (x3 * (48271 : Int64)) / (2147483647 : Int64) * (2147483647 : Int64))), av0, .inl (.int (x5 + (1 : Int32))), .inl (.int y1), .inl (.int y5), .inl (.int y7)], [], h12) rfl ?_
      refine S_nrm [.inr (29, 0), .inl (.int x1), av0, .inl (.long ((x3 * (48271 : Int64)) - (x3 * (48271 : Int64)) / (2147483647 : Int64) * (2147483647 : Int64))), av0, .inl (.int (x5 + (1 : Int32))), av0, av0, av0] rfl ?_
      exact hrc x1 ((x3 * (48271 : Int64)) - (x3 * (48271 : Int64)) / (2147483647 : Int64) * (2147483647 : Int64)) (x5 + (1 : Int32)) h12
theorem sl_X2_goOn_5     : ∀ (F : Nat) (x1 : Int32) (x3 : Int64) (x5 : Int32) (h : AH), Sim PP (3) k_X2_goOn (5, [.inr (29, 0), .inl (.int x1), av0, .inl (.long x3), av0, .inl (.int x5), av0, av0, av0], [], h) (l_X2_goOn_5 F x1 x3 x5 h) fI := by
  intro F
  induction F with
  | zero => intro x1 x3 x5 h; exact S_none
  | succ F ih => intro x1 x3 x5 h; exact sb_X2_goOn_5 (l_X2_goOn_5 F) x1 x3 x5 ih h
theorem s_X2_goOn (x1 : Int32) (x2 : Int32) (h : AH) : Sim PP (3) k_X2_goOn (0, [.inr (29, 0), .inl (.int x1), .inl (.int x2), av0, av0, av0, av0, av0, av0], [], h) (f_X2_goOn x1 x2 h) fI := by
  unfold f_X2_goOn
  refine S_blk 5 (5, [.inr (29, 0), .inl (.int x1), .inl (.int x2), .inl (.long x2.toInt64), av0, .inl (.int (0 : Int32)), av0, av0, av0], [], h) rfl ?_
  refine S_nrm [.inr (29, 0), .inl (.int x1), av0, .inl (.long x2.toInt64), av0, .inl (.int (0 : Int32)), av0, av0, av0] rfl ?_
  exact (sl_X2_goOn_5  FU x1 x2.toInt64 (0 : Int32) h)
theorem s_X11_night (x1 : Int32) (x2 : Int32) (h : AH) : Sim PP (4) k_X11_night (0, [.inr (0, 0), .inl (.int x1), .inl (.int x2)], [], h) (f_X11_night x1 x2 h) fI := by
  unfold f_X11_night
  refine S_br 3 12 3 [.inr (0, 0), .inl (.int x1), .inl (.int x2)] [] h rfl (fun _ => ?_) (fun _ => ?_)
  · exact S_ri 1 (13, [.inr (0, 0), .inl (.int x1), .inl (.int x2)], [.inl (.int (-1 : Int32))], h) rfl rfl
  · refine S_br 3 12 6 [.inr (0, 0), .inl (.int x1), .inl (.int x2)] [] h rfl (fun _ => ?_) (fun _ => ?_)
    · exact S_ri 1 (13, [.inr (0, 0), .inl (.int x1), .inl (.int x2)], [.inl (.int (-1 : Int32))], h) rfl rfl
    · refine S_br 3 12 9 [.inr (0, 0), .inl (.int x1), .inl (.int x2)] [] h rfl (fun _ => ?_) (fun _ => ?_)
      · exact S_ri 1 (13, [.inr (0, 0), .inl (.int x1), .inl (.int x2)], [.inl (.int (-1 : Int32))], h) rfl rfl
      · refine S_br 3 14 12 [.inr (0, 0), .inl (.int x1), .inl (.int x2)] [] h rfl (fun _ => ?_) (fun _ => ?_)
        · refine S_di 2 16 56 0 [.inr (0, 0), .inl (.int x1), .inl (.int x2)] [.inr (8, 3)] [.inr (8, 3)] [.inr (0, 0), .inl (.int x1), .inl (.int x2)] [] h rfl rfl pp_56 (by decide) (s_X7_hasEvening 3 h) (fun y1 h2 => ?_)
          refine S_br 1 18 20 [.inr (0, 0), .inl (.int x1), .inl (.int x2)] [] h2 rfl (fun _ => ?_) (fun _ => ?_)
          · exact S_ri 1 (19, [.inr (0, 0), .inl (.int x1), .inl (.int x2)], [.inl (.int (-4 : Int32))], h2) rfl rfl
          · refine S_di 2 22 57 0 [.inr (0, 0), .inl (.int x1), .inl (.int x2)] [.inr (8, 3)] [.inr (8, 3)] [.inr (0, 0), .inl (.int x1), .inl (.int x2)] [] h2 rfl rfl pp_57 (by decide) (s_X7_answers 3 h2) (fun y3 h4 => ?_)
            refine S_br 4 29 27 [.inr (0, 0), .inl (.int x1), .inl (.int x2)] [] h4 rfl (fun _ => ?_) (fun _ => ?_)
            · refine S_di 4 33 24 3 [.inr (0, 0), .inl (.int x1), .inl (.int x2)] [.inl (.int x2), .inl (.int x1), .inr (29, 0)] [.inr (29, 0), .inl (.int x1), .inl (.int x2), av0, av0, av0, av0, av0, av0] [.inr (0, 0), .inl (.int x1), .inl (.int x2)] [] h4 rfl rfl pp_24 (by decide) (s_X2_goOn x1 x2 h4) (fun y5 h6 => ?_)
              exact S_ri 0 (34, [.inr (0, 0), .inl (.int x1), .inl (.int x2)], [.inl (.int y5)], h6) rfl rfl
            · exact S_ri 1 (28, [.inr (0, 0), .inl (.int x1), .inl (.int x2)], [.inl (.int (-2 : Int32))], h4) rfl rfl
        · exact S_ri 1 (13, [.inr (0, 0), .inl (.int x1), .inl (.int x2)], [.inl (.int (-1 : Int32))], h) rfl rfl
theorem sb_X12_pick_4  (rc : Int32 → Int32 → Int32 → AH → Option (Int32 × AH)) (x0 : Int32) (x2 : Int32) (x3 : Int32) (hrc : ∀ (x2 : Int32) (x3 : Int32) (h : AH), Sim PP (1) k_X12_pick (4, [.inl (.int x0), av0, .inl (.int x2), .inl (.int x3)], [], h) (rc x0 x2 x3 h) (fE PP (1) k_X12_pick 22 (fun v => [av0, av0, av0, .inl (.int v)])))  (h : AH) : Sim PP (1) k_X12_pick (4, [.inl (.int x0), av0, .inl (.int x2), .inl (.int x3)], [], h) (b_X12_pick_4 rc x0 x2 x3 h) (fE PP (1) k_X12_pick 22 (fun v => [av0, av0, av0, .inl (.int v)])) := by
  unfold b_X12_pick_4
  refine S_di 2 6 155 0 [.inl (.int x0), av0, .inl (.int x2), .inl (.int x3)] [.inl (.int x3), .inl (.int x0)] [.inl (.int x0), .inl (.int x3)] [.inl (.int x0), av0, .inl (.int x2), .inl (.int x3)] [] h rfl rfl pp_155 (by decide) (s_X12_has x0 x3 h) (fun y1 h2 => ?_)
  refine S_br 1 10 8 [.inl (.int x0), av0, .inl (.int x2), .inl (.int x3)] [] h2 rfl (fun _ => ?_) (fun _ => ?_)
  · refine S_di 3 13 155 0 [.inl (.int x0), av0, .inl (.int x2), .inl (.int x3)] [.inl (.int x3), .inl (.int x0), .inl (.int x2)] [.inl (.int x0), .inl (.int x3)] [.inl (.int x0), av0, .inl (.int x2), .inl (.int x3)] [.inl (.int x2)] h2 rfl rfl pp_155 (by decide) (s_X12_has x0 x3 h2) (fun y3 h4 => ?_)
    refine S_br 1 17 15 [.inl (.int x0), av0, .inl (.int x2), .inl (.int x3)] [.inl (.int x2)] h4 rfl (fun _ => ?_) (fun _ => ?_)
    · refine S_blk 5 (4, [.inl (.int x0), av0, .inl (.int (x2 - (0 : Int32))), .inl (.int (x3 + (1 : Int32)))], [], h4) rfl ?_
      refine S_nrm [.inl (.int x0), av0, .inl (.int (x2 - (0 : Int32))), .inl (.int (x3 + (1 : Int32)))] rfl ?_
      exact hrc (x2 - (0 : Int32)) (x3 + (1 : Int32)) h4
    · refine S_blk 6 (4, [.inl (.int x0), av0, .inl (.int (x2 - (1 : Int32))), .inl (.int (x3 + (1 : Int32)))], [], h4) rfl ?_
      refine S_nrm [.inl (.int x0), av0, .inl (.int (x2 - (1 : Int32))), .inl (.int (x3 + (1 : Int32)))] rfl ?_
      exact hrc (x2 - (1 : Int32)) (x3 + (1 : Int32)) h4
  · refine S_br 2 22 10 [.inl (.int x0), av0, .inl (.int x2), .inl (.int x3)] [] h2 rfl (fun _ => ?_) (fun _ => ?_)
    · exact S_ex x3 (fun v => [av0, av0, av0, .inl (.int v)]) rfl
    · refine S_di 3 13 155 0 [.inl (.int x0), av0, .inl (.int x2), .inl (.int x3)] [.inl (.int x3), .inl (.int x0), .inl (.int x2)] [.inl (.int x0), .inl (.int x3)] [.inl (.int x0), av0, .inl (.int x2), .inl (.int x3)] [.inl (.int x2)] h2 rfl rfl pp_155 (by decide) (s_X12_has x0 x3 h2) (fun y5 h6 => ?_)
      refine S_br 1 17 15 [.inl (.int x0), av0, .inl (.int x2), .inl (.int x3)] [.inl (.int x2)] h6 rfl (fun _ => ?_) (fun _ => ?_)
      · refine S_blk 5 (4, [.inl (.int x0), av0, .inl (.int (x2 - (0 : Int32))), .inl (.int (x3 + (1 : Int32)))], [], h6) rfl ?_
        refine S_nrm [.inl (.int x0), av0, .inl (.int (x2 - (0 : Int32))), .inl (.int (x3 + (1 : Int32)))] rfl ?_
        exact hrc (x2 - (0 : Int32)) (x3 + (1 : Int32)) h6
      · refine S_blk 6 (4, [.inl (.int x0), av0, .inl (.int (x2 - (1 : Int32))), .inl (.int (x3 + (1 : Int32)))], [], h6) rfl ?_
        refine S_nrm [.inl (.int x0), av0, .inl (.int (x2 - (1 : Int32))), .inl (.int (x3 + (1 : Int32)))] rfl ?_
        exact hrc (x2 - (1 : Int32)) (x3 + (1 : Int32)) h6
theorem sl_X12_pick_4    (x0 : Int32) : ∀ (F : Nat) (x2 : Int32) (x3 : Int32) (h : AH), Sim PP (1) k_X12_pick (4, [.inl (.int x0), av0, .inl (.int x2), .inl (.int x3)], [], h) (l_X12_pick_4 F x0 x2 x3 h) (fE PP (1) k_X12_pick 22 (fun v => [av0, av0, av0, .inl (.int v)])) := by
  intro F
  induction F with
  | zero => intro x2 x3 h; exact S_none
  | succ F ih => intro x2 x3 h; exact sb_X12_pick_4 (l_X12_pick_4 F) x0 x2 x3 ih h
theorem sc_X12_pick_22    (x3 : Int32)  (h : AH) : Sim PP (1) k_X12_pick (22, [av0, av0, av0, .inl (.int x3)], [], h) (c_X12_pick_22  x3 h) fI := by
  unfold c_X12_pick_22
  exact S_ri 1 (23, [av0, av0, av0, .inl (.int x3)], [.inl (.int x3)], h) rfl rfl
theorem s_X12_pick (x0 : Int32) (x1 : Int32) (h : AH) : Sim PP (1) k_X12_pick (0, [.inl (.int x0), .inl (.int x1), av0, av0], [], h) (f_X12_pick x0 x1 h) fI := by
  unfold f_X12_pick
  refine S_blk 4 (4, [.inl (.int x0), .inl (.int x1), .inl (.int x1), .inl (.int (0 : Int32))], [], h) rfl ?_
  refine S_nrm [.inl (.int x0), av0, .inl (.int x1), .inl (.int (0 : Int32))] rfl ?_
  refine S_lp 22 (fun v => [av0, av0, av0, .inl (.int v)]) (sl_X12_pick_4 x0 FU x1 (0 : Int32) h) (fun v h => ?_)
  exact sc_X12_pick_22 v h
theorem sb_X12_night_30  (rc : Int32 → Int64 → Int32 → AH → Option (Int32 × AH)) (x1 : Int32) (x3 : Int64) (x5 : Int32) (hrc : ∀ (x3 : Int64) (x5 : Int32) (h : AH), Sim PP (5) k_X12_night (30, [.inr (34, 0), .inl (.int x1), av0, .inl (.long x3), av0, .inl (.int x5), av0, av0, av0], [], h) (rc x1 x3 x5 h) (fE PP (5) k_X12_night 93 (fun v => [av0, av0, av0, av0, av0, .inl (.int v), av0, av0, av0])))  (h : AH) : Sim PP (5) k_X12_night (30, [.inr (34, 0), .inl (.int x1), av0, .inl (.long x3), av0, .inl (.int x5), av0, av0, av0], [], h) (b_X12_night_30 rc x1 x3 x5 h) (fE PP (5) k_X12_night 93 (fun v => [av0, av0, av0, av0, av0, .inl (.int v), av0, av0, av0])) := by
  unfold b_X12_night_30
  refine S_br 3 93 33 [.inr (34, 0), .inl (.int x1), av0, .inl (.long x3), av0, .inl (.int x5), av0, av0, av0] [] h rfl (fun _ => ?_) (fun _ => ?_)
  · exact S_ex x5 (fun v => [av0, av0, av0, av0, av0, .inl (.int v), av0, av0, av0]) rfl
  · refine S_di 5 38 217 4 [.inr (34, 0), .inl (.int x1), av0, .inl (.long x3), av0, .inl (.int x5), av0, av0, av0] [.inl (.int (h.1 34 0 27)), .inr (49, 0), .inr (34, 0)] [.inr (34, 0), .inr (49, 0), .inl (.int (h.1 34 0 27)), av0, av0, av0] [.inr (34, 0), .inl (.int x1), av0, .inl (.long x3), av0, .inl (.int x5), av0, av0, av0] [] h rfl rfl pp_217 (by decide) (s_X12_mayAnswer_m_askedOf (h.1 34 0 27) h) (fun y1 h2 => ?_)
    refine S_br 1 93 40 [.inr (34, 0), .inl (.int x1), av0, .inl (.long x3), av0, .inl (.int x5), av0, av0, av0] [] h2 rfl (fun _ => ?_) (fun _ => ?_)
    · exact S_ex x5 (fun v => [av0, av0, av0, av0, av0, .inl (.int v), av0, av0, av0]) rfl
    · refine S_gn 5 (c := (2147483647 : Int64) = 0) (45, [.inr (34, 0), .inl (.int x1), av0, .inl (.long x3), av0, .inl (.int x5), av0, av0, av0], [.inl (.long (((48271 : Int64) * x3) - ((48271 : Int64) * x3) / (2147483647 : Int64) * (2147483647 : Int64)))], h2) rfl (by decide) ?_
      refine S_di 6 51 217 4 [.inr (34, 0), .inl (.int x1), av0, .inl (.long (((48271 : Int64) * x3) - ((48271 : Int64) * x3) / (2147483647 : Int64) * (2147483647 : Int64))), av0, .inl (.int x5), av0, av0, av0] [.inl (.int (h2.1 34 0 27)), .inr (49, 0), .inr (34, 0)] [.inr (34, 0), .inr (49, 0), .inl (.int (h2.1 34 0 27)), av0, av0, av0] [.inr (34, 0), .inl (.int x1), av0, .inl (.long (((48271 : Int64) * x3) - ((48271 : Int64) * x3) / (2147483647 : Int64) * (2147483647 : Int64))), av0, .inl (.int x5), av0, av0, av0] [] h2 rfl rfl pp_217 (by decide) (s_X12_mayAnswer_m_askedOf (h2.1 34 0 27) h2) (fun y3 h4 => ?_)
      refine S_di 4 56 156 0 [.inr (34, 0), .inl (.int x1), av0, .inl (.long (((48271 : Int64) * x3) - ((48271 : Int64) * x3) / (2147483647 : Int64) * (2147483647 : Int64))), av0, .inl (.int x5), .inl (.int y3), av0, av0] [.inl (.int y3), .inl (.long (((48271 : Int64) * x3) - ((48271 : Int64) * x3) / (2147483647 : Int64) * (2147483647 : Int64))), .inl (.int y3)] [.inl (.int y3), av0, av0] [.inr (34, 0), .inl (.int x1), av0, .inl (.long (((48271 : Int64) * x3) - ((48271 : Int64) * x3) / (2147483647 : Int64) * (2147483647 : Int64))), av0, .inl (.int x5), .inl (.int y3), av0, av0] [.inl (.long (((48271 : Int64) * x3) - ((48271 : Int64) * x3) / (2147483647 : Int64) * (2147483647 : Int64))), .inl (.int y3)] h4 rfl rfl pp_156 (by decide) (s_X12_bits y3 h4) (fun y5 h6 => ?_)
      refine S_grn 2 (59, [.inr (34, 0), .inl (.int x1), av0, .inl (.long (((48271 : Int64) * x3) - ((48271 : Int64) * x3) / (2147483647 : Int64) * (2147483647 : Int64))), av0, .inl (.int x5), .inl (.int y3), av0, av0], [.inl (.long ((((48271 : Int64) * x3) - ((48271 : Int64) * x3) / (2147483647 : Int64) * (2147483647 : Int64)) - (((48271 : Int64) * x3) - ((48271 : Int64) * x3) / (2147483647 : Int64) * (2147483647 : Int64)) / y5.toInt64 * y5.toInt64)), .inl (.int y3)], h6) rfl (fun _ => ?_)
      refine S_di 1 60 264 1 [.inr (34, 0), .inl (.int x1), av0, .inl (.long (((48271 : Int64) * x3) - ((48271 : Int64) * x3) / (2147483647 : Int64) * (2147483647 : Int64))), av0, .inl (.int x5), .inl (.int y3), av0, av0] [.inl (.int (((((48271 : Int64) * x3) - ((48271 : Int64) * x3) / (2147483647 : Int64) * (2147483647 : Int64)) - (((48271 : Int64) * x3) - ((48271 : Int64) * x3) / (2147483647 : Int64) * (2147483647 : Int64)) / y5.toInt64 * y5.toInt64).toInt32)), .inl (.int y3)] [.inl (.int y3), .inl (.int (((((48271 : Int64) * x3) - ((48271 : Int64) * x3) / (2147483647 : Int64) * (2147483647 : Int64)) - (((48271 : Int64) * x3) - ((48271 : Int64) * x3) / (2147483647 : Int64) * (2147483647 : Int64)) / y5.toInt64 * y5.toInt64).toInt32)), av0, av0] [.inr (34, 0), .inl (.int x1), av0, .inl (.long (((48271 : Int64) * x3) - ((48271 : Int64) * x3) / (2147483647 : Int64) * (2147483647 : Int64))), av0, .inl (.int x5), .inl (.int y3), av0, av0] [] h6 rfl rfl pp_264 (by decide) (s_X12_pick y3 (((((48271 : Int64) * x3) - ((48271 : Int64) * x3) / (2147483647 : Int64) * (2147483647 : Int64)) - (((48271 : Int64) * x3) - ((48271 : Int64) * x3) / (2147483647 : Int64) * (2147483647 : Int64)) / y5.toInt64 * y5.toInt64).toInt32) h6) (fun y7 h8 => ?_)
      refine S_di 7 68 215 0 [.inr (34, 0), .inl (.int x1), av0, .inl (.long (((48271 : Int64) * x3) - ((48271 : Int64) * x3) / (2147483647 : Int64) * (2147483647 : Int64))), av0, .inl (.int x5), .inl (.int y3), .inl (.int y7), av0] [.inl (.int (h8.1 34 0 27)), .inr (49, 0), .inl (.int y7), .inr (34, 0)] [.inr (34, 0), .inl (.int y7), .inr (49, 0), .inl (.int (h8.1 34 0 27)), av0, av0] [.inr (34, 0), .inl (.int x1), av0, .inl (.long (((48271 : Int64) * x3) - ((48271 : Int64) * x3) / (2147483647 : Int64) * (2147483647 : Int64))), av0, .inl (.int x5), .inl (.int y3), .inl (.int y7), av0] [] h8 rfl rfl pp_215 (by decide) (s_X12_mayAsk_m_askedOf y7 (h8.1 34 0 27) h8) (fun y9 h10 => ?_)
      refine S_gn 9 (c := (64 : Int64) = 0) (78, [.inr (34, 0), .inl (.int x1), av0, .inl (.long (((48271 : Int64) * x3) - ((48271 : Int64) * x3) / (2147483647 : Int64) * (2147483647 : Int64))), av0, .inl (.int x5), .inl (.int y3), .inl (.int y7), .inl (.int y9)], [.inl (.long ((((48271 : Int64) * x3) - ((48271 : Int64) * x3) / (2147483647 : Int64) * (2147483647 : Int64)) / (64 : Int64))), .inl (.int y9), .inl (.int (h10.1 34 0 27)), .inr (49, 0)], h10) rfl (by decide) ?_
      refine S_di 1 79 156 0 [.inr (34, 0), .inl (.int x1), av0, .inl (.long (((48271 : Int64) * x3) - ((48271 : Int64) * x3) / (2147483647 : Int64) * (2147483647 : Int64))), av0, .inl (.int x5), .inl (.int y3), .inl (.int y7), .inl (.int y9)] [.inl (.int y9), .inl (.long ((((48271 : Int64) * x3) - ((48271 : Int64) * x3) / (2147483647 : Int64) * (2147483647 : Int64)) / (64 : Int64))), .inl (.int y9), .inl (.int (h10.1 34 0 27)), .inr (49, 0)] [.inl (.int y9), av0, av0] [.inr (34, 0), .inl (.int x1), av0, .inl (.long (((48271 : Int64) * x3) - ((48271 : Int64) * x3) / (2147483647 : Int64) * (2147483647 : Int64))), av0, .inl (.int x5), .inl (.int y3), .inl (.int y7), .inl (.int y9)] [.inl (.long ((((48271 : Int64) * x3) - ((48271 : Int64) * x3) / (2147483647 : Int64) * (2147483647 : Int64)) / (64 : Int64))), .inl (.int y9), .inl (.int (h10.1 34 0 27)), .inr (49, 0)] h10 rfl rfl pp_156 (by decide) (s_X12_bits y9 h10) (fun y11 h12 => ?_)
      refine S_grn 2 (82, [.inr (34, 0), .inl (.int x1), av0, .inl (.long (((48271 : Int64) * x3) - ((48271 : Int64) * x3) / (2147483647 : Int64) * (2147483647 : Int64))), av0, .inl (.int x5), .inl (.int y3), .inl (.int y7), .inl (.int y9)], [.inl (.long (((((48271 : Int64) * x3) - ((48271 : Int64) * x3) / (2147483647 : Int64) * (2147483647 : Int64)) / (64 : Int64)) - ((((48271 : Int64) * x3) - ((48271 : Int64) * x3) / (2147483647 : Int64) * (2147483647 : Int64)) / (64 : Int64)) / y11.toInt64 * y11.toInt64)), .inl (.int y9), .inl (.int (h10.1 34 0 27)), .inr (49, 0)], h12) rfl (fun _ => ?_)
      refine S_di 1 83 264 1 [.inr (34, 0), .inl (.int x1), av0, .inl (.long (((48271 : Int64) * x3) - ((48271 : Int64) * x3) / (2147483647 : Int64) * (2147483647 : Int64))), av0, .inl (.int x5), .inl (.int y3), .inl (.int y7), .inl (.int y9)] [.inl (.int ((((((48271 : Int64) * x3) - ((48271 : Int64) * x3) / (2147483647 : Int64) * (2147483647 : Int64)) / (64 : Int64)) - ((((48271 : Int64) * x3) - ((48271 : Int64) * x3) / (2147483647 : Int64) * (2147483647 : Int64)) / (64 : Int64)) / y11.toInt64 * y11.toInt64).toInt32)), .inl (.int y9), .inl (.int (h10.1 34 0 27)), .inr (49, 0)] [.inl (.int y9), .inl (.int ((((((48271 : Int64) * x3) - ((48271 : Int64) * x3) / (2147483647 : Int64) * (2147483647 : Int64)) / (64 : Int64)) - ((((48271 : Int64) * x3) - ((48271 : Int64) * x3) / (2147483647 : Int64) * (2147483647 : Int64)) / (64 : Int64)) / y11.toInt64 * y11.toInt64).toInt32)), av0, av0] [.inr (34, 0), .inl (.int x1), av0, .inl (.long (((48271 : Int64) * x3) - ((48271 : Int64) * x3) / (2147483647 : Int64) * (2147483647 : Int64))), av0, .inl (.int x5), .inl (.int y3), .inl (.int y7), .inl (.int y9)] [.inl (.int (h10.1 34 0 27)), .inr (49, 0)] h12 rfl rfl pp_264 (by decide) (s_X12_pick y9 ((((((48271 : Int64) * x3) - ((48271 : Int64) * x3) / (2147483647 : Int64) * (2147483647 : Int64)) / (64 : Int64)) - ((((48271 : Int64) * x3) - ((48271 : Int64) * x3) / (2147483647 : Int64) * (2147483647 : Int64)) / (64 : Int64)) / y11.toInt64 * y11.toInt64).toInt32) h12) (fun y13 h14 => ?_)
      refine S_grd 1 (85, [.inr (34, 0), .inl (.int x1), av0, .inl (.long (((48271 : Int64) * x3) - ((48271 : Int64) * x3) / (2147483647 : Int64) * (2147483647 : Int64))), av0, .inl (.int x5), .inl (.int y3), .inl (.int y7), .inl (.int y9)], [], (hsI h14 49 0 (h10.1 34 0 27).toNatClampNeg y13)) rfl (fun _ => ?_)
      refine S_blk 8 (30, [.inr (34, 0), .inl (.int x1), av0, .inl (.long (((48271 : Int64) * x3) - ((48271 : Int64) * x3) / (2147483647 : Int64) * (2147483647 : Int64))), av0, .inl (.int (x5 + (1 : Int32))), .inl (.int y3), .inl (.int y7), .inl (.int y9)], [], (hsI (hsI h14 49 0 (h10.1 34 0 27).toNatClampNeg y13) 34 0 27 (((hsI h14 49 0 (h10.1 34 0 27).toNatClampNeg y13).1 34 0 27) + (1 : Int32)))) rfl ?_
      refine S_nrm [.inr (34, 0), .inl (.int x1), av0, .inl (.long (((48271 : Int64) * x3) - ((48271 : Int64) * x3) / (2147483647 : Int64) * (2147483647 : Int64))), av0, .inl (.int (x5 + (1 : Int32))), av0, av0, av0] rfl ?_
      exact hrc (((48271 : Int64) * x3) - ((48271 : Int64) * x3) / (2147483647 : Int64) * (2147483647 : Int64)) (x5 + (1 : Int32)) (hsI (hsI h14 49 0 (h10.1 34 0 27).toNatClampNeg y13) 34 0 27 (((hsI h14 49 0 (h10.1 34 0 27).toNatClampNeg y13).1 34 0 27) + (1 : Int32)))
theorem sl_X12_night_30    (x1 : Int32) : ∀ (F : Nat) (x3 : Int64) (x5 : Int32) (h : AH), Sim PP (5) k_X12_night (30, [.inr (34, 0), .inl (.int x1), av0, .inl (.long x3), av0, .inl (.int x5), av0, av0, av0], [], h) (l_X12_night_30 F x1 x3 x5 h) (fE PP (5) k_X12_night 93 (fun v => [av0, av0, av0, av0, av0, .inl (.int v), av0, av0, av0])) := by
  intro F
  induction F with
  | zero => intro x3 x5 h; exact S_none
  | succ F ih => intro x3 x5 h; exact sb_X12_night_30 (l_X12_night_30 F) x1 x3 x5 ih h
theorem sc_X12_night_93    (x5 : Int32)  (h : AH) : Sim PP (5) k_X12_night (93, [av0, av0, av0, av0, av0, .inl (.int x5), av0, av0, av0], [], h) (c_X12_night_93  x5 h) fI := by
  unfold c_X12_night_93
  exact S_ri 1 (94, [av0, av0, av0, av0, av0, .inl (.int x5), av0, av0, av0], [.inl (.int x5)], h) rfl rfl
theorem s_X12_night (x1 : Int32) (x2 : Int32) (h : AH) : Sim PP (5) k_X12_night (0, [.inr (34, 0), .inl (.int x1), .inl (.int x2), av0, av0, av0, av0, av0, av0], [], h) (f_X12_night x1 x2 h) fI := by
  unfold f_X12_night
  refine S_di 3 3 154 0 [.inr (34, 0), .inl (.int x1), .inl (.int x2), av0, av0, av0, av0, av0, av0] [.inl (.int (20 : Int32)), .inl (.int (1 : Int32)), .inl (.int x1)] [.inl (.int x1), .inl (.int (1 : Int32)), .inl (.int (20 : Int32))] [.inr (34, 0), .inl (.int x1), .inl (.int x2), av0, av0, av0, av0, av0, av0] [] h rfl rfl pp_154 (by decide) (s_X12_in x1 (1 : Int32) (20 : Int32) h) (fun y1 h2 => ?_)
  refine S_br 1 10 5 [.inr (34, 0), .inl (.int x1), .inl (.int x2), av0, av0, av0, av0, av0, av0] [] h2 rfl (fun _ => ?_) (fun _ => ?_)
  · exact S_ri 1 (11, [.inr (34, 0), .inl (.int x1), .inl (.int x2), av0, av0, av0, av0, av0, av0], [.inl (.int (-1 : Int32))], h2) rfl rfl
  · refine S_di 3 8 154 0 [.inr (34, 0), .inl (.int x1), .inl (.int x2), av0, av0, av0, av0, av0, av0] [.inl (.int (2147483646 : Int32)), .inl (.int (1 : Int32)), .inl (.int x2)] [.inl (.int x2), .inl (.int (1 : Int32)), .inl (.int (2147483646 : Int32))] [.inr (34, 0), .inl (.int x1), .inl (.int x2), av0, av0, av0, av0, av0, av0] [] h2 rfl rfl pp_154 (by decide) (s_X12_in x2 (1 : Int32) (2147483646 : Int32) h2) (fun y3 h4 => ?_)
    refine S_br 1 10 12 [.inr (34, 0), .inl (.int x1), .inl (.int x2), av0, av0, av0, av0, av0, av0] [] h4 rfl (fun _ => ?_) (fun _ => ?_)
    · exact S_ri 1 (11, [.inr (34, 0), .inl (.int x1), .inl (.int x2), av0, av0, av0, av0, av0, av0], [.inl (.int (-1 : Int32))], h4) rfl rfl
    · refine S_br 3 15 17 [.inr (34, 0), .inl (.int x1), .inl (.int x2), av0, av0, av0, av0, av0, av0] [] h4 rfl (fun _ => ?_) (fun _ => ?_)
      · exact S_ri 1 (16, [.inr (34, 0), .inl (.int x1), .inl (.int x2), av0, av0, av0, av0, av0, av0], [.inl (.int (-4 : Int32))], h4) rfl rfl
      · refine S_di 1 18 222 0 [.inr (34, 0), .inl (.int x1), .inl (.int x2), av0, av0, av0, av0, av0, av0] [.inr (34, 0)] [.inr (34, 0)] [.inr (34, 0), .inl (.int x1), .inl (.int x2), av0, av0, av0, av0, av0, av0] [] h4 rfl rfl pp_222 (by decide) (s_X12_answerMany  h4) (fun y5 h6 => ?_)
        refine S_br 4 25 23 [.inr (34, 0), .inl (.int x1), .inl (.int x2), av0, av0, av0, av0, av0, av0] [] h6 rfl (fun _ => ?_) (fun _ => ?_)
        · refine S_blk 5 (30, [.inr (34, 0), .inl (.int x1), .inl (.int x2), .inl (.long x2.toInt64), av0, .inl (.int (0 : Int32)), av0, av0, av0], [], h6) rfl ?_
          refine S_nrm [.inr (34, 0), .inl (.int x1), av0, .inl (.long x2.toInt64), av0, .inl (.int (0 : Int32)), av0, av0, av0] rfl ?_
          refine S_lp 93 (fun v => [av0, av0, av0, av0, av0, .inl (.int v), av0, av0, av0]) (sl_X12_night_30 x1 FU x2.toInt64 (0 : Int32) h6) (fun v h => ?_)
          exact sc_X12_night_93 v h
        · exact S_ri 1 (24, [.inr (34, 0), .inl (.int x1), .inl (.int x2), av0, av0, av0, av0, av0, av0], [.inl (.int (-2 : Int32))], h6) rfl rfl
theorem s_X11_asked  (h : AH) : Sim PP (0) k_X11_asked (0, [.inr (0, 0)], [], h) (f_X11_asked  h) fI := by
  unfold f_X11_asked
  exact S_ri 2 (2, [.inr (0, 0)], [.inl (.int (h.1 0 0 14))], h) rfl rfl
theorem s_X12_asked  (h : AH) : Sim PP (0) k_X12_asked (0, [.inr (34, 0)], [], h) (f_X12_asked  h) fI := by
  unfold f_X12_asked
  exact S_ri 2 (2, [.inr (34, 0)], [.inl (.int (h.1 34 0 2))], h) rfl rfl
theorem s_X11_upper  (h : AH) : Sim PP (0) k_X11_upper (0, [.inr (0, 0)], [], h) (f_X11_upper  h) fL := by
  unfold f_X11_upper
  exact S_rl 2 (2, [.inr (0, 0)], [.inl (.long (h.2 0 0 15))], h) rfl rfl
theorem s_X12_upper  (h : AH) : Sim PP (0) k_X12_upper (0, [.inr (34, 0)], [], h) (f_X12_upper  h) fL := by
  unfold f_X12_upper
  exact S_rl 2 (2, [.inr (34, 0)], [.inl (.long (h.2 34 0 3))], h) rfl rfl
theorem s_X11_lower  (h : AH) : Sim PP (0) k_X11_lower (0, [.inr (0, 0)], [], h) (f_X11_lower  h) fL := by
  unfold f_X11_lower
  exact S_rl 2 (2, [.inr (0, 0)], [.inl (.long (h.2 0 0 16))], h) rfl rfl
theorem s_X12_lower  (h : AH) : Sim PP (0) k_X12_lower (0, [.inr (34, 0)], [], h) (f_X12_lower  h) fL := by
  unfold f_X12_lower
  exact S_rl 2 (2, [.inr (34, 0)], [.inl (.long (h.2 34 0 4))], h) rfl rfl
theorem sb_X11_rowsThere_4  (rc : Int32 → Int32 → AH → Option (Int32 × AH)) (x1 : Int32) (x2 : Int32) (hrc : ∀ (x1 : Int32) (x2 : Int32) (h : AH), Sim PP (1) k_X11_rowsThere (4, [.inr (0, 0), .inl (.int x1), .inl (.int x2)], [], h) (rc x1 x2 h) (fE PP (1) k_X11_rowsThere 21 (fun v => [av0, .inl (.int v), av0])))  (h : AH) : Sim PP (1) k_X11_rowsThere (4, [.inr (0, 0), .inl (.int x1), .inl (.int x2)], [], h) (b_X11_rowsThere_4 rc x1 x2 h) (fE PP (1) k_X11_rowsThere 21 (fun v => [av0, .inl (.int v), av0])) := by
  unfold b_X11_rowsThere_4
  refine S_br 3 21 7 [.inr (0, 0), .inl (.int x1), .inl (.int x2)] [] h rfl (fun _ => ?_) (fun _ => ?_)
  · exact S_ex x1 (fun v => [av0, .inl (.int v), av0]) rfl
  · refine S_grd 5 (12, [.inr (0, 0), .inl (.int x1), .inl (.int x2)], [.inr (2, (x2.toNatClampNeg)), .inl (.int x1)], h) rfl (fun _ => ?_)
    refine S_di 0 12 40 0 [.inr (0, 0), .inl (.int x1), .inl (.int x2)] [.inr (2, (x2.toNatClampNeg)), .inl (.int x1)] [.inr (2, (x2.toNatClampNeg))] [.inr (0, 0), .inl (.int x1), .inl (.int x2)] [.inl (.int x1)] h rfl rfl pp_40 (by decide) (s_X5_isMissing (x2.toNatClampNeg) h) (fun y1 h2 => ?_)
    refine S_br 1 16 14 [.inr (0, 0), .inl (.int x1), .inl (.int x2)] [.inl (.int x1)] h2 rfl (fun _ => ?_) (fun _ => ?_)
    · refine S_blk 5 (4, [.inr (0, 0), .inl (.int (x1 + (1 : Int32))), .inl (.int (x2 + (1 : Int32)))], [], h2) rfl ?_
      refine S_nrm [.inr (0, 0), .inl (.int (x1 + (1 : Int32))), .inl (.int (x2 + (1 : Int32)))] rfl ?_
      exact hrc (x1 + (1 : Int32)) (x2 + (1 : Int32)) h2
    · refine S_blk 6 (4, [.inr (0, 0), .inl (.int (x1 + (0 : Int32))), .inl (.int (x2 + (1 : Int32)))], [], h2) rfl ?_
      refine S_nrm [.inr (0, 0), .inl (.int (x1 + (0 : Int32))), .inl (.int (x2 + (1 : Int32)))] rfl ?_
      exact hrc (x1 + (0 : Int32)) (x2 + (1 : Int32)) h2
theorem sl_X11_rowsThere_4     : ∀ (F : Nat) (x1 : Int32) (x2 : Int32) (h : AH), Sim PP (1) k_X11_rowsThere (4, [.inr (0, 0), .inl (.int x1), .inl (.int x2)], [], h) (l_X11_rowsThere_4 F x1 x2 h) (fE PP (1) k_X11_rowsThere 21 (fun v => [av0, .inl (.int v), av0])) := by
  intro F
  induction F with
  | zero => intro x1 x2 h; exact S_none
  | succ F ih => intro x1 x2 h; exact sb_X11_rowsThere_4 (l_X11_rowsThere_4 F) x1 x2 ih h
theorem sc_X11_rowsThere_21    (x1 : Int32)  (h : AH) : Sim PP (1) k_X11_rowsThere (21, [av0, .inl (.int x1), av0], [], h) (c_X11_rowsThere_21  x1 h) fI := by
  unfold c_X11_rowsThere_21
  exact S_ri 1 (22, [av0, .inl (.int x1), av0], [.inl (.int x1)], h) rfl rfl
theorem s_X11_rowsThere  (h : AH) : Sim PP (1) k_X11_rowsThere (0, [.inr (0, 0), av0, av0], [], h) (f_X11_rowsThere  h) fI := by
  unfold f_X11_rowsThere
  refine S_blk 4 (4, [.inr (0, 0), .inl (.int (0 : Int32)), .inl (.int (0 : Int32))], [], h) rfl ?_
  refine S_nrm [.inr (0, 0), .inl (.int (0 : Int32)), .inl (.int (0 : Int32))] rfl ?_
  refine S_lp 21 (fun v => [av0, .inl (.int v), av0]) (sl_X11_rowsThere_4  FU (0 : Int32) (0 : Int32) h) (fun v h => ?_)
  exact sc_X11_rowsThere_21 v h
theorem sb_X11_textsThere_4  (rc : Int32 → Int32 → AH → Option (Int32 × AH)) (x1 : Int32) (x2 : Int32) (hrc : ∀ (x1 : Int32) (x2 : Int32) (h : AH), Sim PP (1) k_X11_textsThere (4, [.inr (0, 0), .inl (.int x1), .inl (.int x2)], [], h) (rc x1 x2 h) (fE PP (1) k_X11_textsThere 21 (fun v => [av0, .inl (.int v), av0])))  (h : AH) : Sim PP (1) k_X11_textsThere (4, [.inr (0, 0), .inl (.int x1), .inl (.int x2)], [], h) (b_X11_textsThere_4 rc x1 x2 h) (fE PP (1) k_X11_textsThere 21 (fun v => [av0, .inl (.int v), av0])) := by
  unfold b_X11_textsThere_4
  refine S_br 3 21 7 [.inr (0, 0), .inl (.int x1), .inl (.int x2)] [] h rfl (fun _ => ?_) (fun _ => ?_)
  · exact S_ex x1 (fun v => [av0, .inl (.int v), av0]) rfl
  · refine S_grd 5 (12, [.inr (0, 0), .inl (.int x1), .inl (.int x2)], [.inr (5, (x2.toNatClampNeg)), .inl (.int x1)], h) rfl (fun _ => ?_)
    refine S_di 0 12 67 0 [.inr (0, 0), .inl (.int x1), .inl (.int x2)] [.inr (5, (x2.toNatClampNeg)), .inl (.int x1)] [.inr (5, (x2.toNatClampNeg))] [.inr (0, 0), .inl (.int x1), .inl (.int x2)] [.inl (.int x1)] h rfl rfl pp_67 (by decide) (s_X9_isMissing (x2.toNatClampNeg) h) (fun y1 h2 => ?_)
    refine S_br 1 16 14 [.inr (0, 0), .inl (.int x1), .inl (.int x2)] [.inl (.int x1)] h2 rfl (fun _ => ?_) (fun _ => ?_)
    · refine S_blk 5 (4, [.inr (0, 0), .inl (.int (x1 + (1 : Int32))), .inl (.int (x2 + (1 : Int32)))], [], h2) rfl ?_
      refine S_nrm [.inr (0, 0), .inl (.int (x1 + (1 : Int32))), .inl (.int (x2 + (1 : Int32)))] rfl ?_
      exact hrc (x1 + (1 : Int32)) (x2 + (1 : Int32)) h2
    · refine S_blk 6 (4, [.inr (0, 0), .inl (.int (x1 + (0 : Int32))), .inl (.int (x2 + (1 : Int32)))], [], h2) rfl ?_
      refine S_nrm [.inr (0, 0), .inl (.int (x1 + (0 : Int32))), .inl (.int (x2 + (1 : Int32)))] rfl ?_
      exact hrc (x1 + (0 : Int32)) (x2 + (1 : Int32)) h2
theorem sl_X11_textsThere_4     : ∀ (F : Nat) (x1 : Int32) (x2 : Int32) (h : AH), Sim PP (1) k_X11_textsThere (4, [.inr (0, 0), .inl (.int x1), .inl (.int x2)], [], h) (l_X11_textsThere_4 F x1 x2 h) (fE PP (1) k_X11_textsThere 21 (fun v => [av0, .inl (.int v), av0])) := by
  intro F
  induction F with
  | zero => intro x1 x2 h; exact S_none
  | succ F ih => intro x1 x2 h; exact sb_X11_textsThere_4 (l_X11_textsThere_4 F) x1 x2 ih h
theorem sc_X11_textsThere_21    (x1 : Int32)  (h : AH) : Sim PP (1) k_X11_textsThere (21, [av0, .inl (.int x1), av0], [], h) (c_X11_textsThere_21  x1 h) fI := by
  unfold c_X11_textsThere_21
  exact S_ri 1 (22, [av0, .inl (.int x1), av0], [.inl (.int x1)], h) rfl rfl
theorem s_X11_textsThere  (h : AH) : Sim PP (1) k_X11_textsThere (0, [.inr (0, 0), av0, av0], [], h) (f_X11_textsThere  h) fI := by
  unfold f_X11_textsThere
  refine S_blk 4 (4, [.inr (0, 0), .inl (.int (0 : Int32)), .inl (.int (0 : Int32))], [], h) rfl ?_
  refine S_nrm [.inr (0, 0), .inl (.int (0 : Int32)), .inl (.int (0 : Int32))] rfl ?_
  refine S_lp 21 (fun v => [av0, .inl (.int v), av0]) (sl_X11_textsThere_4  FU (0 : Int32) (0 : Int32) h) (fun v h => ?_)
  exact sc_X11_textsThere_21 v h
theorem sb_X11_imagesThere_4  (rc : Int32 → Int32 → AH → Option (Int32 × AH)) (x1 : Int32) (x2 : Int32) (hrc : ∀ (x1 : Int32) (x2 : Int32) (h : AH), Sim PP (0) k_X11_imagesThere (4, [.inr (0, 0), .inl (.int x1), .inl (.int x2)], [], h) (rc x1 x2 h) (fE PP (0) k_X11_imagesThere 21 (fun v => [av0, .inl (.int v), av0])))  (h : AH) : Sim PP (0) k_X11_imagesThere (4, [.inr (0, 0), .inl (.int x1), .inl (.int x2)], [], h) (b_X11_imagesThere_4 rc x1 x2 h) (fE PP (0) k_X11_imagesThere 21 (fun v => [av0, .inl (.int v), av0])) := by
  unfold b_X11_imagesThere_4
  refine S_br 3 21 7 [.inr (0, 0), .inl (.int x1), .inl (.int x2)] [] h rfl (fun _ => ?_) (fun _ => ?_)
  · exact S_ex x1 (fun v => [av0, .inl (.int v), av0]) rfl
  · refine S_grd 5 (12, [.inr (0, 0), .inl (.int x1), .inl (.int x2)], [.inr (8, (x2.toNatClampNeg)), .inl (.int x1)], h) rfl (fun _ => ?_)
    refine S_br 2 16 14 [.inr (0, 0), .inl (.int x1), .inl (.int x2)] [.inl (.int x1)] h rfl (fun _ => ?_) (fun _ => ?_)
    · refine S_blk 5 (4, [.inr (0, 0), .inl (.int (x1 + (0 : Int32))), .inl (.int (x2 + (1 : Int32)))], [], h) rfl ?_
      refine S_nrm [.inr (0, 0), .inl (.int (x1 + (0 : Int32))), .inl (.int (x2 + (1 : Int32)))] rfl ?_
      exact hrc (x1 + (0 : Int32)) (x2 + (1 : Int32)) h
    · refine S_blk 6 (4, [.inr (0, 0), .inl (.int (x1 + (1 : Int32))), .inl (.int (x2 + (1 : Int32)))], [], h) rfl ?_
      refine S_nrm [.inr (0, 0), .inl (.int (x1 + (1 : Int32))), .inl (.int (x2 + (1 : Int32)))] rfl ?_
      exact hrc (x1 + (1 : Int32)) (x2 + (1 : Int32)) h
theorem sl_X11_imagesThere_4     : ∀ (F : Nat) (x1 : Int32) (x2 : Int32) (h : AH), Sim PP (0) k_X11_imagesThere (4, [.inr (0, 0), .inl (.int x1), .inl (.int x2)], [], h) (l_X11_imagesThere_4 F x1 x2 h) (fE PP (0) k_X11_imagesThere 21 (fun v => [av0, .inl (.int v), av0])) := by
  intro F
  induction F with
  | zero => intro x1 x2 h; exact S_none
  | succ F ih => intro x1 x2 h; exact sb_X11_imagesThere_4 (l_X11_imagesThere_4 F) x1 x2 ih h
theorem sc_X11_imagesThere_21    (x1 : Int32)  (h : AH) : Sim PP (0) k_X11_imagesThere (21, [av0, .inl (.int x1), av0], [], h) (c_X11_imagesThere_21  x1 h) fI := by
  unfold c_X11_imagesThere_21
  exact S_ri 1 (22, [av0, .inl (.int x1), av0], [.inl (.int x1)], h) rfl rfl
theorem s_X11_imagesThere  (h : AH) : Sim PP (0) k_X11_imagesThere (0, [.inr (0, 0), av0, av0], [], h) (f_X11_imagesThere  h) fI := by
  unfold f_X11_imagesThere
  refine S_blk 4 (4, [.inr (0, 0), .inl (.int (0 : Int32)), .inl (.int (0 : Int32))], [], h) rfl ?_
  refine S_nrm [.inr (0, 0), .inl (.int (0 : Int32)), .inl (.int (0 : Int32))] rfl ?_
  refine S_lp 21 (fun v => [av0, .inl (.int v), av0]) (sl_X11_imagesThere_4  FU (0 : Int32) (0 : Int32) h) (fun v h => ?_)
  exact sc_X11_imagesThere_21 v h
theorem s_X11_howMany (x1 : Int32) (h : AH) : Sim PP (2) k_X11_howMany (0, [.inr (0, 0), .inl (.int x1)], [], h) (f_X11_howMany x1 h) fI := by
  unfold f_X11_howMany
  refine S_blk 2 (if x1 = 0 then 2 else if x1 = 1 then 6 else if x1 = 2 then 10 else if x1 = 3 then 14 else if x1 = 4 then 19 else if x1 = 5 then 24 else if x1 = 6 then 30 else if x1 = 7 then 33 else 36, [.inr (0, 0), .inl (.int x1)], [], h) rfl ?_
  refine S_ite (fun _ => ?_) (fun _ => ?_)
  · exact S_ri 3 (5, [.inr (0, 0), .inl (.int x1)], [.inl (.int (h.1 12 0 5))], h) rfl rfl
  · refine S_ite (fun _ => ?_) (fun _ => ?_)
    · exact S_ri 3 (9, [.inr (0, 0), .inl (.int x1)], [.inl (.int (h.1 12 0 6))], h) rfl rfl
    · refine S_ite (fun _ => ?_) (fun _ => ?_)
      · refine S_di 2 12 57 0 [.inr (0, 0), .inl (.int x1)] [.inr (8, 3)] [.inr (8, 3)] [.inr (0, 0), .inl (.int x1)] [] h rfl rfl pp_57 (by decide) (s_X7_answers 3 h) (fun y1 h2 => ?_)
        exact S_ri 0 (13, [.inr (0, 0), .inl (.int x1)], [.inl (.int y1)], h2) rfl rfl
      · refine S_ite (fun _ => ?_) (fun _ => ?_)
        · refine S_di 3 17 271 0 [.inr (0, 0), .inl (.int x1)] [.inl (.int (h.1 8 3 3))] [.inl (.int (h.1 8 3 3))] [.inr (0, 0), .inl (.int x1)] [] h rfl rfl pp_271 (by decide) (s_J6_bitCount_0f7a4 (h.1 8 3 3) h) (fun y3 h4 => ?_)
          exact S_ri 0 (18, [.inr (0, 0), .inl (.int x1)], [.inl (.int y3)], h4) rfl rfl
        · refine S_ite (fun _ => ?_) (fun _ => ?_)
          · refine S_di 3 22 271 0 [.inr (0, 0), .inl (.int x1)] [.inl (.int (h.1 8 3 4))] [.inl (.int (h.1 8 3 4))] [.inr (0, 0), .inl (.int x1)] [] h rfl rfl pp_271 (by decide) (s_J6_bitCount_0f7a4 (h.1 8 3 4) h) (fun y5 h6 => ?_)
            exact S_ri 0 (23, [.inr (0, 0), .inl (.int x1)], [.inl (.int y5)], h6) rfl rfl
          · refine S_ite (fun _ => ?_) (fun _ => ?_)
            · refine S_di 3 27 51 1 [.inr (0, 0), .inl (.int x1)] [.inl (.int (1 : Int32)), .inr (12, 0)] [.inr (12, 0), .inl (.int (1 : Int32))] [.inr (0, 0), .inl (.int x1)] [] h rfl rfl pp_51 (by decide) (s_X6_bitsOf 0 (1 : Int32) h) (fun y7 h8 => ?_)
              refine S_di 0 28 271 0 [.inr (0, 0), .inl (.int x1)] [.inl (.int y7)] [.inl (.int y7)] [.inr (0, 0), .inl (.int x1)] [] h8 rfl rfl pp_271 (by decide) (s_J6_bitCount_0f7a4 y7 h8) (fun y9 h10 => ?_)
              exact S_ri 0 (29, [.inr (0, 0), .inl (.int x1)], [.inl (.int y9)], h10) rfl rfl
            · refine S_ite (fun _ => ?_) (fun _ => ?_)
              · refine S_di 1 31 146 1 [.inr (0, 0), .inl (.int x1)] [.inr (0, 0)] [.inr (0, 0), av0, av0] [.inr (0, 0), .inl (.int x1)] [] h rfl rfl pp_146 (by decide) (s_X11_rowsThere  h) (fun y11 h12 => ?_)
                exact S_ri 0 (32, [.inr (0, 0), .inl (.int x1)], [.inl (.int y11)], h12) rfl rfl
              · refine S_ite (fun _ => ?_) (fun _ => ?_)
                · refine S_di 1 34 147 1 [.inr (0, 0), .inl (.int x1)] [.inr (0, 0)] [.inr (0, 0), av0, av0] [.inr (0, 0), .inl (.int x1)] [] h rfl rfl pp_147 (by decide) (s_X11_textsThere  h) (fun y13 h14 => ?_)
                  exact S_ri 0 (35, [.inr (0, 0), .inl (.int x1)], [.inl (.int y13)], h14) rfl rfl
                · refine S_di 1 37 148 0 [.inr (0, 0), .inl (.int x1)] [.inr (0, 0)] [.inr (0, 0), av0, av0] [.inr (0, 0), .inl (.int x1)] [] h rfl rfl pp_148 (by decide) (s_X11_imagesThere  h) (fun y15 h16 => ?_)
                  exact S_ri 0 (38, [.inr (0, 0), .inl (.int x1)], [.inl (.int y15)], h16) rfl rfl
theorem s_X11_count (x1 : Int32) (h : AH) : Sim PP (3) k_X11_count (0, [.inr (0, 0), .inl (.int x1)], [], h) (f_X11_count x1 h) fI := by
  unfold f_X11_count
  refine S_br 2 5 2 [.inr (0, 0), .inl (.int x1)] [] h rfl (fun _ => ?_) (fun _ => ?_)
  · exact S_ri 2 (10, [.inr (0, 0), .inl (.int x1)], [.inl (.int (-1 : Int32))], h) rfl rfl
  · refine S_br 3 7 5 [.inr (0, 0), .inl (.int x1)] [] h rfl (fun _ => ?_) (fun _ => ?_)
    · refine S_di 2 9 145 2 [.inr (0, 0), .inl (.int x1)] [.inl (.int x1), .inr (0, 0)] [.inr (0, 0), .inl (.int x1)] [.inr (0, 0), .inl (.int x1)] [] h rfl rfl pp_145 (by decide) (s_X11_howMany x1 h) (fun y1 h2 => ?_)
      exact S_ri 0 (10, [.inr (0, 0), .inl (.int x1)], [.inl (.int y1)], h2) rfl rfl
    · exact S_ri 2 (10, [.inr (0, 0), .inl (.int x1)], [.inl (.int (-1 : Int32))], h) rfl rfl
theorem sb_X12_counted_4  (rc : Int32 → Int32 → Int32 → AH → Option (Int32 × AH)) (x1 : Int32) (x2 : Int32) (x3 : Int32) (hrc : ∀ (x2 : Int32) (x3 : Int32) (h : AH), Sim PP (2) k_X12_counted (4, [.inr (34, 0), .inl (.int x1), .inl (.int x2), .inl (.int x3)], [], h) (rc x1 x2 x3 h) (fE PP (2) k_X12_counted 23 (fun v => [.inr (34, 0), .inl (.int x1), .inl (.int v), av0])))  (h : AH) : Sim PP (2) k_X12_counted (4, [.inr (34, 0), .inl (.int x1), .inl (.int x2), .inl (.int x3)], [], h) (b_X12_counted_4 rc x1 x2 x3 h) (fE PP (2) k_X12_counted 23 (fun v => [.inr (34, 0), .inl (.int x1), .inl (.int v), av0])) := by
  unfold b_X12_counted_4
  refine S_br 4 23 8 [.inr (34, 0), .inl (.int x1), .inl (.int x2), .inl (.int x3)] [] h rfl (fun _ => ?_) (fun _ => ?_)
  · exact S_ex x2 (fun v => [.inr (34, 0), .inl (.int x1), .inl (.int v), av0]) rfl
  · refine S_br 4 12 18 [.inr (34, 0), .inl (.int x1), .inl (.int x2), .inl (.int x3)] [.inl (.int x2)] h rfl (fun _ => ?_) (fun _ => ?_)
    · refine S_di 2 14 193 1 [.inr (34, 0), .inl (.int x1), .inl (.int x2), .inl (.int x3)] [.inl (.int x3), .inr (34, 0), .inl (.int x2)] [.inr (34, 0), .inl (.int x3)] [.inr (34, 0), .inl (.int x1), .inl (.int x2), .inl (.int x3)] [.inl (.int x2)] h rfl rfl pp_193 (by decide) (s_X12_isEnd x3 h) (fun y1 h2 => ?_)
      refine S_br 1 18 16 [.inr (34, 0), .inl (.int x1), .inl (.int x2), .inl (.int x3)] [.inl (.int x2)] h2 rfl (fun _ => ?_) (fun _ => ?_)
      · refine S_blk 5 (4, [.inr (34, 0), .inl (.int x1), .inl (.int (x2 + (0 : Int32))), .inl (.int (x3 + (1 : Int32)))], [], h2) rfl ?_
        refine S_nrm [.inr (34, 0), .inl (.int x1), .inl (.int (x2 + (0 : Int32))), .inl (.int (x3 + (1 : Int32)))] rfl ?_
        exact hrc (x2 + (0 : Int32)) (x3 + (1 : Int32)) h2
      · refine S_blk 6 (4, [.inr (34, 0), .inl (.int x1), .inl (.int (x2 + (1 : Int32))), .inl (.int (x3 + (1 : Int32)))], [], h2) rfl ?_
        refine S_nrm [.inr (34, 0), .inl (.int x1), .inl (.int (x2 + (1 : Int32))), .inl (.int (x3 + (1 : Int32)))] rfl ?_
        exact hrc (x2 + (1 : Int32)) (x3 + (1 : Int32)) h2
    · refine S_blk 5 (4, [.inr (34, 0), .inl (.int x1), .inl (.int (x2 + (0 : Int32))), .inl (.int (x3 + (1 : Int32)))], [], h) rfl ?_
      refine S_nrm [.inr (34, 0), .inl (.int x1), .inl (.int (x2 + (0 : Int32))), .inl (.int (x3 + (1 : Int32)))] rfl ?_
      exact hrc (x2 + (0 : Int32)) (x3 + (1 : Int32)) h
theorem sl_X12_counted_4    (x1 : Int32) : ∀ (F : Nat) (x2 : Int32) (x3 : Int32) (h : AH), Sim PP (2) k_X12_counted (4, [.inr (34, 0), .inl (.int x1), .inl (.int x2), .inl (.int x3)], [], h) (l_X12_counted_4 F x1 x2 x3 h) (fE PP (2) k_X12_counted 23 (fun v => [.inr (34, 0), .inl (.int x1), .inl (.int v), av0])) := by
  intro F
  induction F with
  | zero => intro x2 x3 h; exact S_none
  | succ F ih => intro x2 x3 h; exact sb_X12_counted_4 (l_X12_counted_4 F) x1 x2 x3 ih h
theorem sb_X12_counted_25  (rc : Int32 → Int32 → Int32 → AH → Option (Int32 × AH)) (x1 : Int32) (x2 : Int32) (x3 : Int32) (hrc : ∀ (x2 : Int32) (x3 : Int32) (h : AH), Sim PP (2) k_X12_counted (25, [.inr (34, 0), .inl (.int x1), .inl (.int x2), .inl (.int x3)], [], h) (rc x1 x2 x3 h) (fE PP (2) k_X12_counted 44 (fun v => [.inr (34, 0), .inl (.int x1), .inl (.int v), av0])))  (h : AH) : Sim PP (2) k_X12_counted (25, [.inr (34, 0), .inl (.int x1), .inl (.int x2), .inl (.int x3)], [], h) (b_X12_counted_25 rc x1 x2 x3 h) (fE PP (2) k_X12_counted 44 (fun v => [.inr (34, 0), .inl (.int x1), .inl (.int v), av0])) := by
  unfold b_X12_counted_25
  refine S_br 3 44 28 [.inr (34, 0), .inl (.int x1), .inl (.int x2), .inl (.int x3)] [] h rfl (fun _ => ?_) (fun _ => ?_)
  · exact S_ex x2 (fun v => [.inr (34, 0), .inl (.int x1), .inl (.int v), av0]) rfl
  · refine S_br 4 32 39 [.inr (34, 0), .inl (.int x1), .inl (.int x2), .inl (.int x3)] [.inl (.int x2)] h rfl (fun _ => ?_) (fun _ => ?_)
    · refine S_grd 4 (36, [.inr (34, 0), .inl (.int x1), .inl (.int x2), .inl (.int x3)], [.inl (.int (h.1 36 0 x3.toNatClampNeg)), .inl (.int x2)], h) rfl (fun _ => ?_)
      refine S_br 1 39 37 [.inr (34, 0), .inl (.int x1), .inl (.int x2), .inl (.int x3)] [.inl (.int x2)] h rfl (fun _ => ?_) (fun _ => ?_)
      · refine S_blk 5 (25, [.inr (34, 0), .inl (.int x1), .inl (.int (x2 + (0 : Int32))), .inl (.int (x3 + (1 : Int32)))], [], h) rfl ?_
        refine S_nrm [.inr (34, 0), .inl (.int x1), .inl (.int (x2 + (0 : Int32))), .inl (.int (x3 + (1 : Int32)))] rfl ?_
        exact hrc (x2 + (0 : Int32)) (x3 + (1 : Int32)) h
      · refine S_blk 6 (25, [.inr (34, 0), .inl (.int x1), .inl (.int (x2 + (1 : Int32))), .inl (.int (x3 + (1 : Int32)))], [], h) rfl ?_
        refine S_nrm [.inr (34, 0), .inl (.int x1), .inl (.int (x2 + (1 : Int32))), .inl (.int (x3 + (1 : Int32)))] rfl ?_
        exact hrc (x2 + (1 : Int32)) (x3 + (1 : Int32)) h
    · refine S_blk 5 (25, [.inr (34, 0), .inl (.int x1), .inl (.int (x2 + (0 : Int32))), .inl (.int (x3 + (1 : Int32)))], [], h) rfl ?_
      refine S_nrm [.inr (34, 0), .inl (.int x1), .inl (.int (x2 + (0 : Int32))), .inl (.int (x3 + (1 : Int32)))] rfl ?_
      exact hrc (x2 + (0 : Int32)) (x3 + (1 : Int32)) h
theorem sl_X12_counted_25    (x1 : Int32) : ∀ (F : Nat) (x2 : Int32) (x3 : Int32) (h : AH), Sim PP (2) k_X12_counted (25, [.inr (34, 0), .inl (.int x1), .inl (.int x2), .inl (.int x3)], [], h) (l_X12_counted_25 F x1 x2 x3 h) (fE PP (2) k_X12_counted 44 (fun v => [.inr (34, 0), .inl (.int x1), .inl (.int v), av0])) := by
  intro F
  induction F with
  | zero => intro x2 x3 h; exact S_none
  | succ F ih => intro x2 x3 h; exact sb_X12_counted_25 (l_X12_counted_25 F) x1 x2 x3 ih h
theorem sb_X12_counted_46  (rc : Int32 → Int32 → Int32 → AH → Option (Int32 × AH)) (x1 : Int32) (x2 : Int32) (x3 : Int32) (hrc : ∀ (x2 : Int32) (x3 : Int32) (h : AH), Sim PP (2) k_X12_counted (46, [.inr (34, 0), .inl (.int x1), .inl (.int x2), .inl (.int x3)], [], h) (rc x1 x2 x3 h) (fE PP (2) k_X12_counted 65 (fun v => [.inr (34, 0), .inl (.int x1), .inl (.int v), av0])))  (h : AH) : Sim PP (2) k_X12_counted (46, [.inr (34, 0), .inl (.int x1), .inl (.int x2), .inl (.int x3)], [], h) (b_X12_counted_46 rc x1 x2 x3 h) (fE PP (2) k_X12_counted 65 (fun v => [.inr (34, 0), .inl (.int x1), .inl (.int v), av0])) := by
  unfold b_X12_counted_46
  refine S_br 3 65 49 [.inr (34, 0), .inl (.int x1), .inl (.int x2), .inl (.int x3)] [] h rfl (fun _ => ?_) (fun _ => ?_)
  · exact S_ex x2 (fun v => [.inr (34, 0), .inl (.int x1), .inl (.int v), av0]) rfl
  · refine S_br 4 53 60 [.inr (34, 0), .inl (.int x1), .inl (.int x2), .inl (.int x3)] [.inl (.int x2)] h rfl (fun _ => ?_) (fun _ => ?_)
    · refine S_grd 4 (57, [.inr (34, 0), .inl (.int x1), .inl (.int x2), .inl (.int x3)], [.inl (.int (h.1 39 0 x3.toNatClampNeg)), .inl (.int x2)], h) rfl (fun _ => ?_)
      refine S_br 1 60 58 [.inr (34, 0), .inl (.int x1), .inl (.int x2), .inl (.int x3)] [.inl (.int x2)] h rfl (fun _ => ?_) (fun _ => ?_)
      · refine S_blk 5 (46, [.inr (34, 0), .inl (.int x1), .inl (.int (x2 + (0 : Int32))), .inl (.int (x3 + (1 : Int32)))], [], h) rfl ?_
        refine S_nrm [.inr (34, 0), .inl (.int x1), .inl (.int (x2 + (0 : Int32))), .inl (.int (x3 + (1 : Int32)))] rfl ?_
        exact hrc (x2 + (0 : Int32)) (x3 + (1 : Int32)) h
      · refine S_blk 6 (46, [.inr (34, 0), .inl (.int x1), .inl (.int (x2 + (1 : Int32))), .inl (.int (x3 + (1 : Int32)))], [], h) rfl ?_
        refine S_nrm [.inr (34, 0), .inl (.int x1), .inl (.int (x2 + (1 : Int32))), .inl (.int (x3 + (1 : Int32)))] rfl ?_
        exact hrc (x2 + (1 : Int32)) (x3 + (1 : Int32)) h
    · refine S_blk 5 (46, [.inr (34, 0), .inl (.int x1), .inl (.int (x2 + (0 : Int32))), .inl (.int (x3 + (1 : Int32)))], [], h) rfl ?_
      refine S_nrm [.inr (34, 0), .inl (.int x1), .inl (.int (x2 + (0 : Int32))), .inl (.int (x3 + (1 : Int32)))] rfl ?_
      exact hrc (x2 + (0 : Int32)) (x3 + (1 : Int32)) h
theorem sl_X12_counted_46    (x1 : Int32) : ∀ (F : Nat) (x2 : Int32) (x3 : Int32) (h : AH), Sim PP (2) k_X12_counted (46, [.inr (34, 0), .inl (.int x1), .inl (.int x2), .inl (.int x3)], [], h) (l_X12_counted_46 F x1 x2 x3 h) (fE PP (2) k_X12_counted 65 (fun v => [.inr (34, 0), .inl (.int x1), .inl (.int v), av0])) := by
  intro F
  induction F with
  | zero => intro x2 x3 h; exact S_none
  | succ F ih => intro x2 x3 h; exact sb_X12_counted_46 (l_X12_counted_46 F) x1 x2 x3 ih h
theorem sb_X12_counted_67  (rc : Int32 → Int32 → Int32 → AH → Option (Int32 × AH)) (x1 : Int32) (x2 : Int32) (x3 : Int32) (hrc : ∀ (x2 : Int32) (x3 : Int32) (h : AH), Sim PP (2) k_X12_counted (67, [.inr (34, 0), .inl (.int x1), .inl (.int x2), .inl (.int x3)], [], h) (rc x1 x2 x3 h) (fE PP (2) k_X12_counted 86 (fun v => [.inr (34, 0), .inl (.int x1), .inl (.int v), av0])))  (h : AH) : Sim PP (2) k_X12_counted (67, [.inr (34, 0), .inl (.int x1), .inl (.int x2), .inl (.int x3)], [], h) (b_X12_counted_67 rc x1 x2 x3 h) (fE PP (2) k_X12_counted 86 (fun v => [.inr (34, 0), .inl (.int x1), .inl (.int v), av0])) := by
  unfold b_X12_counted_67
  refine S_br 3 86 70 [.inr (34, 0), .inl (.int x1), .inl (.int x2), .inl (.int x3)] [] h rfl (fun _ => ?_) (fun _ => ?_)
  · exact S_ex x2 (fun v => [.inr (34, 0), .inl (.int x1), .inl (.int v), av0]) rfl
  · refine S_br 4 74 81 [.inr (34, 0), .inl (.int x1), .inl (.int x2), .inl (.int x3)] [.inl (.int x2)] h rfl (fun _ => ?_) (fun _ => ?_)
    · refine S_grd 4 (78, [.inr (34, 0), .inl (.int x1), .inl (.int x2), .inl (.int x3)], [.inl (.int (h.1 50 0 x3.toNatClampNeg)), .inl (.int x2)], h) rfl (fun _ => ?_)
      refine S_br 1 81 79 [.inr (34, 0), .inl (.int x1), .inl (.int x2), .inl (.int x3)] [.inl (.int x2)] h rfl (fun _ => ?_) (fun _ => ?_)
      · refine S_blk 5 (67, [.inr (34, 0), .inl (.int x1), .inl (.int (x2 + (0 : Int32))), .inl (.int (x3 + (1 : Int32)))], [], h) rfl ?_
        refine S_nrm [.inr (34, 0), .inl (.int x1), .inl (.int (x2 + (0 : Int32))), .inl (.int (x3 + (1 : Int32)))] rfl ?_
        exact hrc (x2 + (0 : Int32)) (x3 + (1 : Int32)) h
      · refine S_blk 6 (67, [.inr (34, 0), .inl (.int x1), .inl (.int (x2 + (1 : Int32))), .inl (.int (x3 + (1 : Int32)))], [], h) rfl ?_
        refine S_nrm [.inr (34, 0), .inl (.int x1), .inl (.int (x2 + (1 : Int32))), .inl (.int (x3 + (1 : Int32)))] rfl ?_
        exact hrc (x2 + (1 : Int32)) (x3 + (1 : Int32)) h
    · refine S_blk 5 (67, [.inr (34, 0), .inl (.int x1), .inl (.int (x2 + (0 : Int32))), .inl (.int (x3 + (1 : Int32)))], [], h) rfl ?_
      refine S_nrm [.inr (34, 0), .inl (.int x1), .inl (.int (x2 + (0 : Int32))), .inl (.int (x3 + (1 : Int32)))] rfl ?_
      exact hrc (x2 + (0 : Int32)) (x3 + (1 : Int32)) h
theorem sl_X12_counted_67    (x1 : Int32) : ∀ (F : Nat) (x2 : Int32) (x3 : Int32) (h : AH), Sim PP (2) k_X12_counted (67, [.inr (34, 0), .inl (.int x1), .inl (.int x2), .inl (.int x3)], [], h) (l_X12_counted_67 F x1 x2 x3 h) (fE PP (2) k_X12_counted 86 (fun v => [.inr (34, 0), .inl (.int x1), .inl (.int v), av0])) := by
  intro F
  induction F with
  | zero => intro x2 x3 h; exact S_none
  | succ F ih => intro x2 x3 h; exact sb_X12_counted_67 (l_X12_counted_67 F) x1 x2 x3 ih h
theorem sc_X12_counted_86    (x1 : Int32) (x2 : Int32)  (h : AH) : Sim PP (2) k_X12_counted (86, [.inr (34, 0), .inl (.int x1), .inl (.int x2), av0], [], h) (c_X12_counted_86  x1 x2 h) fI := by
  unfold c_X12_counted_86
  refine S_blk 2 (if x1 = 0 then 88 else if x1 = 1 then 91 else if x1 = 2 then 94 else if x1 = 3 then 97 else if x1 = 4 then 101 else 105, [.inr (34, 0), .inl (.int x1), .inl (.int x2), av0], [], h) rfl ?_
  refine S_ite (fun _ => ?_) (fun _ => ?_)
  · exact S_ri 2 (90, [.inr (34, 0), .inl (.int x1), .inl (.int x2), av0], [.inl (.int (h.1 34 0 10))], h) rfl rfl
  · refine S_ite (fun _ => ?_) (fun _ => ?_)
    · exact S_ri 2 (93, [.inr (34, 0), .inl (.int x1), .inl (.int x2), av0], [.inl (.int (h.1 34 0 11))], h) rfl rfl
    · refine S_ite (fun _ => ?_) (fun _ => ?_)
      · refine S_di 1 95 222 0 [.inr (34, 0), .inl (.int x1), .inl (.int x2), av0] [.inr (34, 0)] [.inr (34, 0)] [.inr (34, 0), .inl (.int x1), .inl (.int x2), av0] [] h rfl rfl pp_222 (by decide) (s_X12_answerMany  h) (fun y1 h2 => ?_)
        exact S_ri 0 (96, [.inr (34, 0), .inl (.int x1), .inl (.int x2), av0], [.inl (.int y1)], h2) rfl rfl
      · refine S_ite (fun _ => ?_) (fun _ => ?_)
        · refine S_di 2 99 156 0 [.inr (34, 0), .inl (.int x1), .inl (.int x2), av0] [.inl (.int (h.1 34 0 16))] [.inl (.int (h.1 34 0 16)), av0, av0] [.inr (34, 0), .inl (.int x1), .inl (.int x2), av0] [] h rfl rfl pp_156 (by decide) (s_X12_bits (h.1 34 0 16) h) (fun y3 h4 => ?_)
          exact S_ri 0 (100, [.inr (34, 0), .inl (.int x1), .inl (.int x2), av0], [.inl (.int y3)], h4) rfl rfl
        · refine S_ite (fun _ => ?_) (fun _ => ?_)
          · refine S_di 2 103 156 0 [.inr (34, 0), .inl (.int x1), .inl (.int x2), av0] [.inl (.int (h.1 34 0 17))] [.inl (.int (h.1 34 0 17)), av0, av0] [.inr (34, 0), .inl (.int x1), .inl (.int x2), av0] [] h rfl rfl pp_156 (by decide) (s_X12_bits (h.1 34 0 17) h) (fun y5 h6 => ?_)
            exact S_ri 0 (104, [.inr (34, 0), .inl (.int x1), .inl (.int x2), av0], [.inl (.int y5)], h6) rfl rfl
          · exact S_ri 1 (106, [.inr (34, 0), .inl (.int x1), .inl (.int x2), av0], [.inl (.int x2)], h) rfl rfl
theorem sc_X12_counted_65    (x1 : Int32) (x2 : Int32)  (h : AH) : Sim PP (2) k_X12_counted (65, [.inr (34, 0), .inl (.int x1), .inl (.int x2), av0], [], h) (c_X12_counted_65  x1 x2 h) fI := by
  unfold c_X12_counted_65
  refine S_blk 2 (67, [.inr (34, 0), .inl (.int x1), .inl (.int x2), .inl (.int (0 : Int32))], [], h) rfl ?_
  refine S_nrm [.inr (34, 0), .inl (.int x1), .inl (.int x2), .inl (.int (0 : Int32))] rfl ?_
  refine S_lp 86 (fun v => [.inr (34, 0), .inl (.int x1), .inl (.int v), av0]) (sl_X12_counted_67 x1 FU x2 (0 : Int32) h) (fun v h => ?_)
  exact sc_X12_counted_86 x1 v h
theorem sc_X12_counted_44    (x1 : Int32) (x2 : Int32)  (h : AH) : Sim PP (2) k_X12_counted (44, [.inr (34, 0), .inl (.int x1), .inl (.int x2), av0], [], h) (c_X12_counted_44  x1 x2 h) fI := by
  unfold c_X12_counted_44
  refine S_blk 2 (46, [.inr (34, 0), .inl (.int x1), .inl (.int x2), .inl (.int (0 : Int32))], [], h) rfl ?_
  refine S_nrm [.inr (34, 0), .inl (.int x1), .inl (.int x2), .inl (.int (0 : Int32))] rfl ?_
  refine S_lp 65 (fun v => [.inr (34, 0), .inl (.int x1), .inl (.int v), av0]) (sl_X12_counted_46 x1 FU x2 (0 : Int32) h) (fun v h => ?_)
  exact sc_X12_counted_65 x1 v h
theorem sc_X12_counted_23    (x1 : Int32) (x2 : Int32)  (h : AH) : Sim PP (2) k_X12_counted (23, [.inr (34, 0), .inl (.int x1), .inl (.int x2), av0], [], h) (c_X12_counted_23  x1 x2 h) fI := by
  unfold c_X12_counted_23
  refine S_blk 2 (25, [.inr (34, 0), .inl (.int x1), .inl (.int x2), .inl (.int (0 : Int32))], [], h) rfl ?_
  refine S_nrm [.inr (34, 0), .inl (.int x1), .inl (.int x2), .inl (.int (0 : Int32))] rfl ?_
  refine S_lp 44 (fun v => [.inr (34, 0), .inl (.int x1), .inl (.int v), av0]) (sl_X12_counted_25 x1 FU x2 (0 : Int32) h) (fun v h => ?_)
  exact sc_X12_counted_44 x1 v h
theorem s_X12_counted (x1 : Int32) (h : AH) : Sim PP (2) k_X12_counted (0, [.inr (34, 0), .inl (.int x1), av0, av0], [], h) (f_X12_counted x1 h) fI := by
  unfold f_X12_counted
  refine S_blk 4 (4, [.inr (34, 0), .inl (.int x1), .inl (.int (0 : Int32)), .inl (.int (0 : Int32))], [], h) rfl ?_
  refine S_nrm [.inr (34, 0), .inl (.int x1), .inl (.int (0 : Int32)), .inl (.int (0 : Int32))] rfl ?_
  refine S_lp 23 (fun v => [.inr (34, 0), .inl (.int x1), .inl (.int v), av0]) (sl_X12_counted_4 x1 FU (0 : Int32) (0 : Int32) h) (fun v h => ?_)
  exact sc_X12_counted_23 x1 v h
theorem s_X12_count (x1 : Int32) (h : AH) : Sim PP (3) k_X12_count (0, [.inr (34, 0), .inl (.int x1)], [], h) (f_X12_count x1 h) fI := by
  unfold f_X12_count
  refine S_di 3 3 154 0 [.inr (34, 0), .inl (.int x1)] [.inl (.int (8 : Int32)), .inl (.int (0 : Int32)), .inl (.int x1)] [.inl (.int x1), .inl (.int (0 : Int32)), .inl (.int (8 : Int32))] [.inr (34, 0), .inl (.int x1)] [] h rfl rfl pp_154 (by decide) (s_X12_in x1 (0 : Int32) (8 : Int32) h) (fun y1 h2 => ?_)
  refine S_br 1 9 5 [.inr (34, 0), .inl (.int x1)] [] h2 rfl (fun _ => ?_) (fun _ => ?_)
  · exact S_ri 1 (10, [.inr (34, 0), .inl (.int x1)], [.inl (.int (-1 : Int32))], h2) rfl rfl
  · refine S_di 2 7 266 2 [.inr (34, 0), .inl (.int x1)] [.inl (.int x1), .inr (34, 0)] [.inr (34, 0), .inl (.int x1), av0, av0] [.inr (34, 0), .inl (.int x1)] [] h2 rfl rfl pp_266 (by decide) (s_X12_counted x1 h2) (fun y3 h4 => ?_)
    exact S_ri 1 (10, [.inr (34, 0), .inl (.int x1)], [.inl (.int y3)], h4) rfl rfl
theorem s_X11_finding  (h : AH) : Sim PP (0) k_X11_finding (0, [.inr (0, 0)], [], h) (f_X11_finding  h) fI := by
  unfold f_X11_finding
  exact S_ri 2 (2, [.inr (0, 0)], [.inl (.int (h.1 0 0 13))], h) rfl rfl
theorem s_X12_finding  (h : AH) : Sim PP (0) k_X12_finding (0, [.inr (34, 0)], [], h) (f_X12_finding  h) fI := by
  unfold f_X12_finding
  exact S_ri 2 (2, [.inr (34, 0)], [.inl (.int (h.1 34 0 0))], h) rfl rfl
theorem s_X11_findings (x1 : Int32) (h : AH) : Sim PP (0) k_X11_findings (0, [.inr (0, 0), .inl (.int x1)], [], h) (f_X11_findings x1 h) fI := by
  unfold f_X11_findings
  refine S_br 3 6 3 [.inr (0, 0), .inl (.int x1)] [] h rfl (fun _ => ?_) (fun _ => ?_)
  · exact S_ri 2 (12, [.inr (0, 0), .inl (.int x1)], [.inl (.int (-1 : Int32))], h) rfl rfl
  · refine S_br 3 8 6 [.inr (0, 0), .inl (.int x1)] [] h rfl (fun _ => ?_) (fun _ => ?_)
    · refine S_grd 4 (12, [.inr (0, 0), .inl (.int x1)], [.inl (.int (h.1 33 0 x1.toNatClampNeg))], h) rfl (fun _ => ?_)
      exact S_ri 0 (12, [.inr (0, 0), .inl (.int x1)], [.inl (.int (h.1 33 0 x1.toNatClampNeg))], h) rfl rfl
    · exact S_ri 2 (12, [.inr (0, 0), .inl (.int x1)], [.inl (.int (-1 : Int32))], h) rfl rfl
theorem s_X12_findings (x1 : Int32) (h : AH) : Sim PP (1) k_X12_findings (0, [.inr (34, 0), .inl (.int x1)], [], h) (f_X12_findings x1 h) fI := by
  unfold f_X12_findings
  refine S_di 3 3 154 0 [.inr (34, 0), .inl (.int x1)] [.inl (.int (5 : Int32)), .inl (.int (1 : Int32)), .inl (.int x1)] [.inl (.int x1), .inl (.int (1 : Int32)), .inl (.int (5 : Int32))] [.inr (34, 0), .inl (.int x1)] [] h rfl rfl pp_154 (by decide) (s_X12_in x1 (1 : Int32) (5 : Int32) h) (fun y1 h2 => ?_)
  refine S_br 1 10 5 [.inr (34, 0), .inl (.int x1)] [] h2 rfl (fun _ => ?_) (fun _ => ?_)
  · exact S_ri 1 (11, [.inr (34, 0), .inl (.int x1)], [.inl (.int (-1 : Int32))], h2) rfl rfl
  · refine S_grd 4 (9, [.inr (34, 0), .inl (.int x1)], [.inl (.int (h2.1 35 0 x1.toNatClampNeg))], h2) rfl (fun _ => ?_)
    exact S_ri 1 (11, [.inr (34, 0), .inl (.int x1)], [.inl (.int (h2.1 35 0 x1.toNatClampNeg))], h2) rfl rfl
theorem sb_X11_withFacts_11  (rc : Int64 → Int32 → Int32 → AH → Option (Int64 × AH)) (x3 : Int64) (x5 : Int32) (x6 : Int32) (hrc : ∀ (x3 : Int64) (x6 : Int32) (h : AH), Sim PP (5) k_X11_withFacts (11, [.inr (0, 0), av0, av0, .inl (.long x3), av0, .inl (.int x5), .inl (.int x6)], [], h) (rc x3 x5 x6 h) (fE PP (5) k_X11_withFacts 26 (fun v => [.inr (0, 0), av0, av0, .inl (.long v), av0, .inl (.int x5), av0])))  (h : AH) : Sim PP (5) k_X11_withFacts (11, [.inr (0, 0), av0, av0, .inl (.long x3), av0, .inl (.int x5), .inl (.int x6)], [], h) (b_X11_withFacts_11 rc x3 x5 x6 h) (fE PP (5) k_X11_withFacts 26 (fun v => [.inr (0, 0), av0, av0, .inl (.long v), av0, .inl (.int x5), av0])) := by
  unfold b_X11_withFacts_11
  refine S_br 3 26 14 [.inr (0, 0), av0, av0, .inl (.long x3), av0, .inl (.int x5), .inl (.int x6)] [] h rfl (fun _ => ?_) (fun _ => ?_)
  · exact S_ex x3 (fun v => [.inr (0, 0), av0, av0, .inl (.long v), av0, .inl (.int x5), av0]) rfl
  · refine S_di 6 20 143 4 [.inr (0, 0), av0, av0, .inl (.long x3), av0, .inl (.int x5), .inl (.int x6)] [.inl (.int x6), .inl (.int x5), .inr (0, 0), .inl (.long ((31 : Int64) * x3))] [.inr (0, 0), .inl (.int x5), .inl (.int x6)] [.inr (0, 0), av0, av0, .inl (.long x3), av0, .inl (.int x5), .inl (.int x6)] [.inl (.long ((31 : Int64) * x3))] h rfl rfl pp_143 (by decide) (s_X11_factOfClaim x5 x6 h) (fun y1 h2 => ?_)
    refine S_blk 5 (11, [.inr (0, 0), av0, av0, .inl (.long (((31 : Int64) * x3) + y1.toInt64)), av0, .inl (.int x5), .inl (.int (x6 + (1 : Int32)))], [], h2) rfl ?_
    refine S_nrm [.inr (0, 0), av0, av0, .inl (.long (((31 : Int64) * x3) + y1.toInt64)), av0, .inl (.int x5), .inl (.int (x6 + (1 : Int32)))] rfl ?_
    exact hrc (((31 : Int64) * x3) + y1.toInt64) (x6 + (1 : Int32)) h2
theorem sl_X11_withFacts_11    (x5 : Int32) : ∀ (F : Nat) (x3 : Int64) (x6 : Int32) (h : AH), Sim PP (5) k_X11_withFacts (11, [.inr (0, 0), av0, av0, .inl (.long x3), av0, .inl (.int x5), .inl (.int x6)], [], h) (l_X11_withFacts_11 F x3 x5 x6 h) (fE PP (5) k_X11_withFacts 26 (fun v => [.inr (0, 0), av0, av0, .inl (.long v), av0, .inl (.int x5), av0])) := by
  intro F
  induction F with
  | zero => intro x3 x6 h; exact S_none
  | succ F ih => intro x3 x6 h; exact sb_X11_withFacts_11 (l_X11_withFacts_11 F) x3 x5 x6 ih h
theorem sc_X11_withFacts_26  (rc : Int64 → Int32 → AH → Option (Int64 × AH))  (x3 : Int64) (x5 : Int32) (hrc : ∀ (x3 : Int64) (x5 : Int32) (h : AH), Sim PP (5) k_X11_withFacts (4, [.inr (0, 0), av0, av0, .inl (.long x3), av0, .inl (.int x5), av0], [], h) (rc x3 x5 h) (fE PP (5) k_X11_withFacts 28 (fun v => [.inr (0, 0), av0, av0, .inl (.long v), av0, av0, av0]))) (h : AH) : Sim PP (5) k_X11_withFacts (26, [.inr (0, 0), av0, av0, .inl (.long x3), av0, .inl (.int x5), av0], [], h) (c_X11_withFacts_26 rc x3 x5 h) (fE PP (5) k_X11_withFacts 28 (fun v => [.inr (0, 0), av0, av0, .inl (.long v), av0, av0, av0])) := by
  unfold c_X11_withFacts_26
  refine S_blk 2 (4, [.inr (0, 0), av0, av0, .inl (.long x3), av0, .inl (.int (x5 + (1 : Int32))), av0], [], h) rfl ?_
  refine S_nrm [.inr (0, 0), av0, av0, .inl (.long x3), av0, .inl (.int (x5 + (1 : Int32))), av0] rfl ?_
  exact hrc x3 (x5 + (1 : Int32)) h
theorem sb_X11_withFacts_4  (rc : Int64 → Int32 → AH → Option (Int64 × AH)) (x3 : Int64) (x5 : Int32) (hrc : ∀ (x3 : Int64) (x5 : Int32) (h : AH), Sim PP (5) k_X11_withFacts (4, [.inr (0, 0), av0, av0, .inl (.long x3), av0, .inl (.int x5), av0], [], h) (rc x3 x5 h) (fE PP (5) k_X11_withFacts 28 (fun v => [.inr (0, 0), av0, av0, .inl (.long v), av0, av0, av0])))  (h : AH) : Sim PP (5) k_X11_withFacts (4, [.inr (0, 0), av0, av0, .inl (.long x3), av0, .inl (.int x5), av0], [], h) (b_X11_withFacts_4 rc x3 x5 h) (fE PP (5) k_X11_withFacts 28 (fun v => [.inr (0, 0), av0, av0, .inl (.long v), av0, av0, av0])) := by
  unfold b_X11_withFacts_4
  refine S_br 5 28 9 [.inr (0, 0), av0, av0, .inl (.long x3), av0, .inl (.int x5), av0] [] h rfl (fun _ => ?_) (fun _ => ?_)
  · exact S_ex x3 (fun v => [.inr (0, 0), av0, av0, .inl (.long v), av0, av0, av0]) rfl
  · refine S_blk 2 (11, [.inr (0, 0), av0, av0, .inl (.long x3), av0, .inl (.int x5), .inl (.int (0 : Int32))], [], h) rfl ?_
    refine S_nrm [.inr (0, 0), av0, av0, .inl (.long x3), av0, .inl (.int x5), .inl (.int (0 : Int32))] rfl ?_
    refine S_lp 26 (fun v => [.inr (0, 0), av0, av0, .inl (.long v), av0, .inl (.int x5), av0]) (sl_X11_withFacts_11 x5 FU x3 (0 : Int32) h) (fun v h => ?_)
    exact sc_X11_withFacts_26 rc v x5 hrc h
theorem sl_X11_withFacts_4     : ∀ (F : Nat) (x3 : Int64) (x5 : Int32) (h : AH), Sim PP (5) k_X11_withFacts (4, [.inr (0, 0), av0, av0, .inl (.long x3), av0, .inl (.int x5), av0], [], h) (l_X11_withFacts_4 F x3 x5 h) (fE PP (5) k_X11_withFacts 28 (fun v => [.inr (0, 0), av0, av0, .inl (.long v), av0, av0, av0])) := by
  intro F
  induction F with
  | zero => intro x3 x5 h; exact S_none
  | succ F ih => intro x3 x5 h; exact sb_X11_withFacts_4 (l_X11_withFacts_4 F) x3 x5 ih h
theorem sb_X11_withFacts_37  (rc : Int64 → Int32 → Int32 → AH → Option (Int64 × AH)) (x3 : Int64) (x5 : Int32) (x6 : Int32) (hrc : ∀ (x3 : Int64) (x6 : Int32) (h : AH), Sim PP (5) k_X11_withFacts (37, [.inr (0, 0), av0, av0, .inl (.long x3), av0, .inl (.int x5), .inl (.int x6)], [], h) (rc x3 x5 x6 h) (fE PP (5) k_X11_withFacts 52 (fun v => [.inr (0, 0), av0, av0, .inl (.long v), av0, .inl (.int x5), av0])))  (h : AH) : Sim PP (5) k_X11_withFacts (37, [.inr (0, 0), av0, av0, .inl (.long x3), av0, .inl (.int x5), .inl (.int x6)], [], h) (b_X11_withFacts_37 rc x3 x5 x6 h) (fE PP (5) k_X11_withFacts 52 (fun v => [.inr (0, 0), av0, av0, .inl (.long v), av0, .inl (.int x5), av0])) := by
  unfold b_X11_withFacts_37
  refine S_br 3 52 40 [.inr (0, 0), av0, av0, .inl (.long x3), av0, .inl (.int x5), .inl (.int x6)] [] h rfl (fun _ => ?_) (fun _ => ?_)
  · exact S_ex x3 (fun v => [.inr (0, 0), av0, av0, .inl (.long v), av0, .inl (.int x5), av0]) rfl
  · refine S_di 6 46 144 0 [.inr (0, 0), av0, av0, .inl (.long x3), av0, .inl (.int x5), .inl (.int x6)] [.inl (.int x6), .inl (.int x5), .inr (0, 0), .inl (.long ((31 : Int64) * x3))] [.inr (0, 0), .inl (.int x5), .inl (.int x6)] [.inr (0, 0), av0, av0, .inl (.long x3), av0, .inl (.int x5), .inl (.int x6)] [.inl (.long ((31 : Int64) * x3))] h rfl rfl pp_144 (by decide) (s_X11_factOfReason x5 x6 h) (fun y1 h2 => ?_)
    refine S_blk 5 (37, [.inr (0, 0), av0, av0, .inl (.long (((31 : Int64) * x3) + y1.toInt64)), av0, .inl (.int x5), .inl (.int (x6 + (1 : Int32)))], [], h2) rfl ?_
    refine S_nrm [.inr (0, 0), av0, av0, .inl (.long (((31 : Int64) * x3) + y1.toInt64)), av0, .inl (.int x5), .inl (.int (x6 + (1 : Int32)))] rfl ?_
    exact hrc (((31 : Int64) * x3) + y1.toInt64) (x6 + (1 : Int32)) h2
theorem sl_X11_withFacts_37    (x5 : Int32) : ∀ (F : Nat) (x3 : Int64) (x6 : Int32) (h : AH), Sim PP (5) k_X11_withFacts (37, [.inr (0, 0), av0, av0, .inl (.long x3), av0, .inl (.int x5), .inl (.int x6)], [], h) (l_X11_withFacts_37 F x3 x5 x6 h) (fE PP (5) k_X11_withFacts 52 (fun v => [.inr (0, 0), av0, av0, .inl (.long v), av0, .inl (.int x5), av0])) := by
  intro F
  induction F with
  | zero => intro x3 x6 h; exact S_none
  | succ F ih => intro x3 x6 h; exact sb_X11_withFacts_37 (l_X11_withFacts_37 F) x3 x5 x6 ih h
theorem sc_X11_withFacts_52  (rc : Int64 → Int32 → AH → Option (Int64 × AH))  (x3 : Int64) (x5 : Int32) (hrc : ∀ (x3 : Int64) (x5 : Int32) (h : AH), Sim PP (5) k_X11_withFacts (30, [.inr (0, 0), av0, av0, .inl (.long x3), av0, .inl (.int x5), av0], [], h) (rc x3 x5 h) (fE PP (5) k_X11_withFacts 54 (fun v => [av0, av0, av0, .inl (.long v), av0, av0, av0]))) (h : AH) : Sim PP (5) k_X11_withFacts (52, [.inr (0, 0), av0, av0, .inl (.long x3), av0, .inl (.int x5), av0], [], h) (c_X11_withFacts_52 rc x3 x5 h) (fE PP (5) k_X11_withFacts 54 (fun v => [av0, av0, av0, .inl (.long v), av0, av0, av0])) := by
  unfold c_X11_withFacts_52
  refine S_blk 2 (30, [.inr (0, 0), av0, av0, .inl (.long x3), av0, .inl (.int (x5 + (1 : Int32))), av0], [], h) rfl ?_
  refine S_nrm [.inr (0, 0), av0, av0, .inl (.long x3), av0, .inl (.int (x5 + (1 : Int32))), av0] rfl ?_
  exact hrc x3 (x5 + (1 : Int32)) h
theorem sb_X11_withFacts_30  (rc : Int64 → Int32 → AH → Option (Int64 × AH)) (x3 : Int64) (x5 : Int32) (hrc : ∀ (x3 : Int64) (x5 : Int32) (h : AH), Sim PP (5) k_X11_withFacts (30, [.inr (0, 0), av0, av0, .inl (.long x3), av0, .inl (.int x5), av0], [], h) (rc x3 x5 h) (fE PP (5) k_X11_withFacts 54 (fun v => [av0, av0, av0, .inl (.long v), av0, av0, av0])))  (h : AH) : Sim PP (5) k_X11_withFacts (30, [.inr (0, 0), av0, av0, .inl (.long x3), av0, .inl (.int x5), av0], [], h) (b_X11_withFacts_30 rc x3 x5 h) (fE PP (5) k_X11_withFacts 54 (fun v => [av0, av0, av0, .inl (.long v), av0, av0, av0])) := by
  unfold b_X11_withFacts_30
  refine S_br 5 54 35 [.inr (0, 0), av0, av0, .inl (.long x3), av0, .inl (.int x5), av0] [] h rfl (fun _ => ?_) (fun _ => ?_)
  · exact S_ex x3 (fun v => [av0, av0, av0, .inl (.long v), av0, av0, av0]) rfl
  · refine S_blk 2 (37, [.inr (0, 0), av0, av0, .inl (.long x3), av0, .inl (.int x5), .inl (.int (0 : Int32))], [], h) rfl ?_
    refine S_nrm [.inr (0, 0), av0, av0, .inl (.long x3), av0, .inl (.int x5), .inl (.int (0 : Int32))] rfl ?_
    refine S_lp 52 (fun v => [.inr (0, 0), av0, av0, .inl (.long v), av0, .inl (.int x5), av0]) (sl_X11_withFacts_37 x5 FU x3 (0 : Int32) h) (fun v h => ?_)
    exact sc_X11_withFacts_52 rc v x5 hrc h
theorem sl_X11_withFacts_30     : ∀ (F : Nat) (x3 : Int64) (x5 : Int32) (h : AH), Sim PP (5) k_X11_withFacts (30, [.inr (0, 0), av0, av0, .inl (.long x3), av0, .inl (.int x5), av0], [], h) (l_X11_withFacts_30 F x3 x5 h) (fE PP (5) k_X11_withFacts 54 (fun v => [av0, av0, av0, .inl (.long v), av0, av0, av0])) := by
  intro F
  induction F with
  | zero => intro x3 x5 h; exact S_none
  | succ F ih => intro x3 x5 h; exact sb_X11_withFacts_30 (l_X11_withFacts_30 F) x3 x5 ih h
theorem sc_X11_withFacts_54    (x3 : Int64)  (h : AH) : Sim PP (5) k_X11_withFacts (54, [av0, av0, av0, .inl (.long x3), av0, av0, av0], [], h) (c_X11_withFacts_54  x3 h) fL := by
  unfold c_X11_withFacts_54
  exact S_rl 1 (55, [av0, av0, av0, .inl (.long x3), av0, av0, av0], [.inl (.long x3)], h) rfl rfl
theorem sc_X11_withFacts_28    (x3 : Int64)  (h : AH) : Sim PP (5) k_X11_withFacts (28, [.inr (0, 0), av0, av0, .inl (.long x3), av0, av0, av0], [], h) (c_X11_withFacts_28  x3 h) fL := by
  unfold c_X11_withFacts_28
  refine S_blk 2 (30, [.inr (0, 0), av0, av0, .inl (.long x3), av0, .inl (.int (0 : Int32)), av0], [], h) rfl ?_
  refine S_nrm [.inr (0, 0), av0, av0, .inl (.long x3), av0, .inl (.int (0 : Int32)), av0] rfl ?_
  refine S_lp 54 (fun v => [av0, av0, av0, .inl (.long v), av0, av0, av0]) (sl_X11_withFacts_30  FU x3 (0 : Int32) h) (fun v h => ?_)
  exact sc_X11_withFacts_54 v h
theorem s_X11_withFacts (x1 : Int64) (h : AH) : Sim PP (5) k_X11_withFacts (0, [.inr (0, 0), .inl (.long x1), av0, av0, av0, av0, av0], [], h) (f_X11_withFacts x1 h) fL := by
  unfold f_X11_withFacts
  refine S_blk 4 (4, [.inr (0, 0), .inl (.long x1), av0, .inl (.long x1), av0, .inl (.int (0 : Int32)), av0], [], h) rfl ?_
  refine S_nrm [.inr (0, 0), av0, av0, .inl (.long x1), av0, .inl (.int (0 : Int32)), av0] rfl ?_
  refine S_lp 28 (fun v => [.inr (0, 0), av0, av0, .inl (.long v), av0, av0, av0]) (sl_X11_withFacts_4  FU x1 (0 : Int32) h) (fun v h => ?_)
  exact sc_X11_withFacts_28 v h
theorem sb_X11_withEvening_14  (rc : Int64 → Int32 → AH → Option (Int64 × AH)) (x3 : Int64) (x5 : Int32) (hrc : ∀ (x3 : Int64) (x5 : Int32) (h : AH), Sim PP (1) k_X11_withEvening (14, [.inr (0, 0), av0, av0, .inl (.long x3), av0, .inl (.int x5)], [], h) (rc x3 x5 h) (fE PP (1) k_X11_withEvening 32 (fun v => [av0, av0, av0, .inl (.long v), av0, av0])))  (h : AH) : Sim PP (1) k_X11_withEvening (14, [.inr (0, 0), av0, av0, .inl (.long x3), av0, .inl (.int x5)], [], h) (b_X11_withEvening_14 rc x3 x5 h) (fE PP (1) k_X11_withEvening 32 (fun v => [av0, av0, av0, .inl (.long v), av0, av0])) := by
  unfold b_X11_withEvening_14
  refine S_br 5 32 19 [.inr (0, 0), av0, av0, .inl (.long x3), av0, .inl (.int x5)] [] h rfl (fun _ => ?_) (fun _ => ?_)
  · exact S_ex x3 (fun v => [av0, av0, av0, .inl (.long v), av0, av0]) rfl
  · refine S_grd 8 (27, [.inr (0, 0), av0, av0, .inl (.long x3), av0, .inl (.int x5)], [.inl (.int (h.1 10 3 x5.toNatClampNeg)), .inl (.long ((31 : Int64) * x3))], h) rfl (fun _ => ?_)
    refine S_blk 5 (14, [.inr (0, 0), av0, av0, .inl (.long (((31 : Int64) * x3) + ((h.1 10 3 x5.toNatClampNeg).toInt64))), av0, .inl (.int (x5 + (1 : Int32)))], [], h) rfl ?_
    refine S_nrm [.inr (0, 0), av0, av0, .inl (.long (((31 : Int64) * x3) + ((h.1 10 3 x5.toNatClampNeg).toInt64))), av0, .inl (.int (x5 + (1 : Int32)))] rfl ?_
    exact hrc (((31 : Int64) * x3) + ((h.1 10 3 x5.toNatClampNeg).toInt64)) (x5 + (1 : Int32)) h
theorem sl_X11_withEvening_14     : ∀ (F : Nat) (x3 : Int64) (x5 : Int32) (h : AH), Sim PP (1) k_X11_withEvening (14, [.inr (0, 0), av0, av0, .inl (.long x3), av0, .inl (.int x5)], [], h) (l_X11_withEvening_14 F x3 x5 h) (fE PP (1) k_X11_withEvening 32 (fun v => [av0, av0, av0, .inl (.long v), av0, av0])) := by
  intro F
  induction F with
  | zero => intro x3 x5 h; exact S_none
  | succ F ih => intro x3 x5 h; exact sb_X11_withEvening_14 (l_X11_withEvening_14 F) x3 x5 ih h
theorem sc_X11_withEvening_32    (x3 : Int64)  (h : AH) : Sim PP (1) k_X11_withEvening (32, [av0, av0, av0, .inl (.long x3), av0, av0], [], h) (c_X11_withEvening_32  x3 h) fL := by
  unfold c_X11_withEvening_32
  exact S_rl 1 (33, [av0, av0, av0, .inl (.long x3), av0, av0], [.inl (.long x3)], h) rfl rfl
theorem s_X11_withEvening (x1 : Int64) (h : AH) : Sim PP (1) k_X11_withEvening (0, [.inr (0, 0), .inl (.long x1), av0, av0, av0, av0], [], h) (f_X11_withEvening x1 h) fL := by
  unfold f_X11_withEvening
  refine S_di 4 4 56 0 [.inr (0, 0), .inl (.long x1), av0, .inl (.long x1), av0, av0] [.inr (8, 3)] [.inr (8, 3)] [.inr (0, 0), .inl (.long x1), av0, .inl (.long x1), av0, av0] [] h rfl rfl pp_56 (by decide) (s_X7_hasEvening 3 h) (fun y1 h2 => ?_)
  refine S_br 1 6 12 [.inr (0, 0), .inl (.long x1), av0, .inl (.long x1), av0, av0] [] h2 rfl (fun _ => ?_) (fun _ => ?_)
  · exact S_rl 5 (11, [.inr (0, 0), .inl (.long x1), av0, .inl (.long x1), av0, av0], [.inl (.long (((31 : Int64) * x1) + (-1 : Int64)))], h2) rfl rfl
  · refine S_blk 2 (14, [.inr (0, 0), .inl (.long x1), av0, .inl (.long x1), av0, .inl (.int (0 : Int32))], [], h2) rfl ?_
    refine S_nrm [.inr (0, 0), av0, av0, .inl (.long x1), av0, .inl (.int (0 : Int32))] rfl ?_
    refine S_lp 32 (fun v => [av0, av0, av0, .inl (.long v), av0, av0]) (sl_X11_withEvening_14  FU x1 (0 : Int32) h2) (fun v h => ?_)
    exact sc_X11_withEvening_32 v h
theorem sb_X11_withRow_10  (rc : Nat → Int64 → Int32 → AH → Option (Int64 × AH)) (r2 : Nat) (x3 : Int64) (x5 : Int32) (hrc : ∀ (x3 : Int64) (x5 : Int32) (h : AH), Sim PP (0) k_X11_withRow (10, [av0, av0, .inr (2, r2), .inl (.long x3), av0, .inl (.int x5)], [], h) (rc r2 x3 x5 h) (fE PP (0) k_X11_withRow 26 (fun v => [av0, av0, av0, .inl (.long v), av0, av0])))  (h : AH) : Sim PP (0) k_X11_withRow (10, [av0, av0, .inr (2, r2), .inl (.long x3), av0, .inl (.int x5)], [], h) (b_X11_withRow_10 rc r2 x3 x5 h) (fE PP (0) k_X11_withRow 26 (fun v => [av0, av0, av0, .inl (.long v), av0, av0])) := by
  unfold b_X11_withRow_10
  refine S_br 4 26 14 [av0, av0, .inr (2, r2), .inl (.long x3), av0, .inl (.int x5)] [] h rfl (fun _ => ?_) (fun _ => ?_)
  · exact S_ex x3 (fun v => [av0, av0, av0, .inl (.long v), av0, av0]) rfl
  · refine S_grd 7 (21, [av0, av0, .inr (2, r2), .inl (.long x3), av0, .inl (.int x5)], [.inl (.int (h.1 3 r2 x5.toNatClampNeg)), .inl (.long ((31 : Int64) * x3))], h) rfl (fun _ => ?_)
    refine S_blk 5 (10, [av0, av0, .inr (2, r2), .inl (.long (((31 : Int64) * x3) + ((h.1 3 r2 x5.toNatClampNeg).toInt64))), av0, .inl (.int (x5 + (1 : Int32)))], [], h) rfl ?_
    refine S_nrm [av0, av0, .inr (2, r2), .inl (.long (((31 : Int64) * x3) + ((h.1 3 r2 x5.toNatClampNeg).toInt64))), av0, .inl (.int (x5 + (1 : Int32)))] rfl ?_
    exact hrc (((31 : Int64) * x3) + ((h.1 3 r2 x5.toNatClampNeg).toInt64)) (x5 + (1 : Int32)) h
theorem sl_X11_withRow_10    (r2 : Nat) : ∀ (F : Nat) (x3 : Int64) (x5 : Int32) (h : AH), Sim PP (0) k_X11_withRow (10, [av0, av0, .inr (2, r2), .inl (.long x3), av0, .inl (.int x5)], [], h) (l_X11_withRow_10 F r2 x3 x5 h) (fE PP (0) k_X11_withRow 26 (fun v => [av0, av0, av0, .inl (.long v), av0, av0])) := by
  intro F
  induction F with
  | zero => intro x3 x5 h; exact S_none
  | succ F ih => intro x3 x5 h; exact sb_X11_withRow_10 (l_X11_withRow_10 F) r2 x3 x5 ih h
theorem sc_X11_withRow_26    (x3 : Int64)  (h : AH) : Sim PP (0) k_X11_withRow (26, [av0, av0, av0, .inl (.long x3), av0, av0], [], h) (c_X11_withRow_26  x3 h) fL := by
  unfold c_X11_withRow_26
  exact S_rl 1 (27, [av0, av0, av0, .inl (.long x3), av0, av0], [.inl (.long x3)], h) rfl rfl
theorem s_X11_withRow (x0 : Int64) (r2 : Nat) (h : AH) : Sim PP (0) k_X11_withRow (0, [.inl (.long x0), av0, .inr (2, r2), av0, av0, av0], [], h) (f_X11_withRow x0 r2 h) fL := by
  unfold f_X11_withRow
  refine S_blk 10 (10, [.inl (.long x0), av0, .inr (2, r2), .inl (.long (((31 : Int64) * x0) + ((h.1 2 r2 1).toInt64))), av0, .inl (.int (0 : Int32))], [], h) rfl ?_
  refine S_nrm [av0, av0, .inr (2, r2), .inl (.long (((31 : Int64) * x0) + ((h.1 2 r2 1).toInt64))), av0, .inl (.int (0 : Int32))] rfl ?_
  refine S_lp 26 (fun v => [av0, av0, av0, .inl (.long v), av0, av0]) (sl_X11_withRow_10 r2 FU (((31 : Int64) * x0) + ((h.1 2 r2 1).toInt64)) (0 : Int32) h) (fun v h => ?_)
  exact sc_X11_withRow_26 v h
theorem sb_X11_withText_10  (rc : Nat → Int64 → Int32 → AH → Option (Int64 × AH)) (r2 : Nat) (x3 : Int64) (x5 : Int32) (hrc : ∀ (x3 : Int64) (x5 : Int32) (h : AH), Sim PP (0) k_X11_withText (10, [av0, av0, .inr (5, r2), .inl (.long x3), av0, .inl (.int x5)], [], h) (rc r2 x3 x5 h) (fE PP (0) k_X11_withText 26 (fun v => [av0, av0, av0, .inl (.long v), av0, av0])))  (h : AH) : Sim PP (0) k_X11_withText (10, [av0, av0, .inr (5, r2), .inl (.long x3), av0, .inl (.int x5)], [], h) (b_X11_withText_10 rc r2 x3 x5 h) (fE PP (0) k_X11_withText 26 (fun v => [av0, av0, av0, .inl (.long v), av0, av0])) := by
  unfold b_X11_withText_10
  refine S_br 4 26 14 [av0, av0, .inr (5, r2), .inl (.long x3), av0, .inl (.int x5)] [] h rfl (fun _ => ?_) (fun _ => ?_)
  · exact S_ex x3 (fun v => [av0, av0, av0, .inl (.long v), av0, av0]) rfl
  · refine S_grd 7 (21, [av0, av0, .inr (5, r2), .inl (.long x3), av0, .inl (.int x5)], [.inl (.int (h.1 6 r2 x5.toNatClampNeg)), .inl (.long ((31 : Int64) * x3))], h) rfl (fun _ => ?_)
    refine S_blk 5 (10, [av0, av0, .inr (5, r2), .inl (.long (((31 : Int64) * x3) + ((h.1 6 r2 x5.toNatClampNeg).toInt64))), av0, .inl (.int (x5 + (1 : Int32)))], [], h) rfl ?_
    refine S_nrm [av0, av0, .inr (5, r2), .inl (.long (((31 : Int64) * x3) + ((h.1 6 r2 x5.toNatClampNeg).toInt64))), av0, .inl (.int (x5 + (1 : Int32)))] rfl ?_
    exact hrc (((31 : Int64) * x3) + ((h.1 6 r2 x5.toNatClampNeg).toInt64)) (x5 + (1 : Int32)) h
theorem sl_X11_withText_10    (r2 : Nat) : ∀ (F : Nat) (x3 : Int64) (x5 : Int32) (h : AH), Sim PP (0) k_X11_withText (10, [av0, av0, .inr (5, r2), .inl (.long x3), av0, .inl (.int x5)], [], h) (l_X11_withText_10 F r2 x3 x5 h) (fE PP (0) k_X11_withText 26 (fun v => [av0, av0, av0, .inl (.long v), av0, av0])) := by
  intro F
  induction F with
  | zero => intro x3 x5 h; exact S_none
  | succ F ih => intro x3 x5 h; exact sb_X11_withText_10 (l_X11_withText_10 F) r2 x3 x5 ih h
theorem sc_X11_withText_26    (x3 : Int64)  (h : AH) : Sim PP (0) k_X11_withText (26, [av0, av0, av0, .inl (.long x3), av0, av0], [], h) (c_X11_withText_26  x3 h) fL := by
  unfold c_X11_withText_26
  exact S_rl 1 (27, [av0, av0, av0, .inl (.long x3), av0, av0], [.inl (.long x3)], h) rfl rfl
theorem s_X11_withText (x0 : Int64) (r2 : Nat) (h : AH) : Sim PP (0) k_X11_withText (0, [.inl (.long x0), av0, .inr (5, r2), av0, av0, av0], [], h) (f_X11_withText x0 r2 h) fL := by
  unfold f_X11_withText
  refine S_blk 10 (10, [.inl (.long x0), av0, .inr (5, r2), .inl (.long (((31 : Int64) * x0) + ((h.1 5 r2 1).toInt64))), av0, .inl (.int (0 : Int32))], [], h) rfl ?_
  refine S_nrm [av0, av0, .inr (5, r2), .inl (.long (((31 : Int64) * x0) + ((h.1 5 r2 1).toInt64))), av0, .inl (.int (0 : Int32))] rfl ?_
  refine S_lp 26 (fun v => [av0, av0, av0, .inl (.long v), av0, av0]) (sl_X11_withText_10 r2 FU (((31 : Int64) * x0) + ((h.1 5 r2 1).toInt64)) (0 : Int32) h) (fun v h => ?_)
  exact sc_X11_withText_26 v h
