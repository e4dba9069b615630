theorem sb_X11_digest_4  (rc : Int64 → Int32 → AH → Option (Int64 × AH)) (x1 : Int64) (x3 : Int32) (hrc : ∀ (x1 : Int64) (x3 : Int32) (h : AH), Sim PP (6) k_X11_digest (4, [.inr (0, 0), .inl (.long x1), av0, .inl (.int x3)], [], h) (rc x1 x3 h) (fE PP (6) k_X11_digest 18 (fun v => [.inr (0, 0), .inl (.long v), av0, av0])))  (h : AH) : Sim PP (6) k_X11_digest (4, [.inr (0, 0), .inl (.long x1), av0, .inl (.int x3)], [], h) (b_X11_digest_4 rc x1 x3 h) (fE PP (6) k_X11_digest 18 (fun v => [.inr (0, 0), .inl (.long v), av0, av0])) := by
  unfold b_X11_digest_4
  refine S_br 3 18 7 [.inr (0, 0), .inl (.long x1), av0, .inl (.int x3)] [] h rfl (fun _ => ?_) (fun _ => ?_)
  · exact S_ex x1 (fun v => [.inr (0, 0), .inl (.long v), av0, av0]) rfl
  · refine S_di 5 12 145 2 [.inr (0, 0), .inl (.long x1), av0, .inl (.int x3)] [.inl (.int x3), .inr (0, 0), .inl (.long ((31 : Int64) * x1))] [.inr (0, 0), .inl (.int x3)] [.inr (0, 0), .inl (.long x1), av0, .inl (.int x3)] [.inl (.long ((31 : Int64) * x1))] h rfl rfl pp_145 (by decide) (s_X11_howMany x3 h) (fun y1 h2 => ?_)
    refine S_blk 5 (4, [.inr (0, 0), .inl (.long (((31 : Int64) * x1) + y1.toInt64)), av0, .inl (.int (x3 + (1 : Int32)))], [], h2) rfl ?_
    refine S_nrm [.inr (0, 0), .inl (.long (((31 : Int64) * x1) + y1.toInt64)), av0, .inl (.int (x3 + (1 : Int32)))] rfl ?_
    exact hrc (((31 : Int64) * x1) + y1.toInt64) (x3 + (1 : Int32)) h2
theorem sl_X11_digest_4     : ∀ (F : Nat) (x1 : Int64) (x3 : Int32) (h : AH), Sim PP (6) k_X11_digest (4, [.inr (0, 0), .inl (.long x1), av0, .inl (.int x3)], [], h) (l_X11_digest_4 F x1 x3 h) (fE PP (6) k_X11_digest 18 (fun v => [.inr (0, 0), .inl (.long v), av0, av0])) := by
  intro F
  induction F with
  | zero => intro x1 x3 h; exact S_none
  | succ F ih => intro x1 x3 h; exact sb_X11_digest_4 (l_X11_digest_4 F) x1 x3 ih h
theorem sb_X11_digest_37  (rc : Int64 → Int32 → AH → Option (Int64 × AH)) (x1 : Int64) (x3 : Int32) (hrc : ∀ (x1 : Int64) (x3 : Int32) (h : AH), Sim PP (6) k_X11_digest (37, [.inr (0, 0), .inl (.long x1), av0, .inl (.int x3)], [], h) (rc x1 x3 h) (fE PP (6) k_X11_digest 61 (fun v => [.inr (0, 0), .inl (.long v), av0, av0])))  (h : AH) : Sim PP (6) k_X11_digest (37, [.inr (0, 0), .inl (.long x1), av0, .inl (.int x3)], [], h) (b_X11_digest_37 rc x1 x3 h) (fE PP (6) k_X11_digest 61 (fun v => [.inr (0, 0), .inl (.long v), av0, av0])) := by
  unfold b_X11_digest_37
  refine S_br 3 61 40 [.inr (0, 0), .inl (.long x1), av0, .inl (.int x3)] [] h rfl (fun _ => ?_) (fun _ => ?_)
  · exact S_ex x1 (fun v => [.inr (0, 0), .inl (.long v), av0, av0]) rfl
  · refine S_grd 7 (47, [.inr (0, 0), .inl (.long x1), av0, .inl (.int x3)], [.inr (8, (x3.toNatClampNeg)), .inl (.long ((31 : Int64) * x1))], h) rfl (fun _ => ?_)
    refine S_br 2 55 49 [.inr (0, 0), .inl (.long x1), av0, .inl (.int x3)] [.inl (.long ((31 : Int64) * x1))] h rfl (fun _ => ?_) (fun _ => ?_)
    · refine S_blk 6 (37, [.inr (0, 0), .inl (.long (((31 : Int64) * x1) + ((-1 : Int32).toInt64))), av0, .inl (.int (x3 + (1 : Int32)))], [], h) rfl ?_
      refine S_nrm [.inr (0, 0), .inl (.long (((31 : Int64) * x1) + ((-1 : Int32).toInt64))), av0, .inl (.int (x3 + (1 : Int32)))] rfl ?_
      exact hrc (((31 : Int64) * x1) + ((-1 : Int32).toInt64)) (x3 + (1 : Int32)) h
    · refine S_grd 4 (53, [.inr (0, 0), .inl (.long x1), av0, .inl (.int x3)], [.inr (8, (x3.toNatClampNeg)), .inl (.long ((31 : Int64) * x1))], h) rfl (fun _ => ?_)
      refine S_di 0 53 57 0 [.inr (0, 0), .inl (.long x1), av0, .inl (.int x3)] [.inr (8, (x3.toNatClampNeg)), .inl (.long ((31 : Int64) * x1))] [.inr (8, (x3.toNatClampNeg))] [.inr (0, 0), .inl (.long x1), av0, .inl (.int x3)] [.inl (.long ((31 : Int64) * x1))] h rfl rfl pp_57 (by decide) (s_X7_answers (x3.toNatClampNeg) h) (fun y1 h2 => ?_)
      refine S_blk 6 (37, [.inr (0, 0), .inl (.long (((31 : Int64) * x1) + y1.toInt64)), av0, .inl (.int (x3 + (1 : Int32)))], [], h2) rfl ?_
      refine S_nrm [.inr (0, 0), .inl (.long (((31 : Int64) * x1) + y1.toInt64)), av0, .inl (.int (x3 + (1 : Int32)))] rfl ?_
      exact hrc (((31 : Int64) * x1) + y1.toInt64) (x3 + (1 : Int32)) h2
theorem sl_X11_digest_37     : ∀ (F : Nat) (x1 : Int64) (x3 : Int32) (h : AH), Sim PP (6) k_X11_digest (37, [.inr (0, 0), .inl (.long x1), av0, .inl (.int x3)], [], h) (l_X11_digest_37 F x1 x3 h) (fE PP (6) k_X11_digest 61 (fun v => [.inr (0, 0), .inl (.long v), av0, av0])) := by
  intro F
  induction F with
  | zero => intro x1 x3 h; exact S_none
  | succ F ih => intro x1 x3 h; exact sb_X11_digest_37 (l_X11_digest_37 F) x1 x3 ih h
theorem sb_X11_digest_63  (rc : Int64 → Int32 → AH → Option (Int64 × AH)) (x1 : Int64) (x3 : Int32) (hrc : ∀ (x1 : Int64) (x3 : Int32) (h : AH), Sim PP (6) k_X11_digest (63, [.inr (0, 0), .inl (.long x1), av0, .inl (.int x3)], [], h) (rc x1 x3 h) (fE PP (6) k_X11_digest 75 (fun v => [.inr (0, 0), .inl (.long v), av0, av0])))  (h : AH) : Sim PP (6) k_X11_digest (63, [.inr (0, 0), .inl (.long x1), av0, .inl (.int x3)], [], h) (b_X11_digest_63 rc x1 x3 h) (fE PP (6) k_X11_digest 75 (fun v => [.inr (0, 0), .inl (.long v), av0, av0])) := by
  unfold b_X11_digest_63
  refine S_br 3 75 66 [.inr (0, 0), .inl (.long x1), av0, .inl (.int x3)] [] h rfl (fun _ => ?_) (fun _ => ?_)
  · exact S_ex x1 (fun v => [.inr (0, 0), .inl (.long v), av0, av0]) rfl
  · refine S_grd 5 (71, [.inr (0, 0), .inl (.long x1), av0, .inl (.int x3)], [.inr (2, (x3.toNatClampNeg)), .inl (.long x1)], h) rfl (fun _ => ?_)
    refine S_dl 0 71 152 0 [.inr (0, 0), .inl (.long x1), av0, .inl (.int x3)] [.inr (2, (x3.toNatClampNeg)), .inl (.long x1)] [.inl (.long x1), av0, .inr (2, (x3.toNatClampNeg)), av0, av0, av0] [.inr (0, 0), .inl (.long x1), av0, .inl (.int x3)] [] h rfl rfl pp_152 (by decide) (s_X11_withRow x1 (x3.toNatClampNeg) h) (fun y1 h2 => ?_)
    refine S_blk 3 (63, [.inr (0, 0), .inl (.long y1), av0, .inl (.int (x3 + (1 : Int32)))], [], h2) rfl ?_
    refine S_nrm [.inr (0, 0), .inl (.long y1), av0, .inl (.int (x3 + (1 : Int32)))] rfl ?_
    exact hrc y1 (x3 + (1 : Int32)) h2
theorem sl_X11_digest_63     : ∀ (F : Nat) (x1 : Int64) (x3 : Int32) (h : AH), Sim PP (6) k_X11_digest (63, [.inr (0, 0), .inl (.long x1), av0, .inl (.int x3)], [], h) (l_X11_digest_63 F x1 x3 h) (fE PP (6) k_X11_digest 75 (fun v => [.inr (0, 0), .inl (.long v), av0, av0])) := by
  intro F
  induction F with
  | zero => intro x1 x3 h; exact S_none
  | succ F ih => intro x1 x3 h; exact sb_X11_digest_63 (l_X11_digest_63 F) x1 x3 ih h
theorem sb_X11_digest_77  (rc : Int64 → Int32 → AH → Option (Int64 × AH)) (x1 : Int64) (x3 : Int32) (hrc : ∀ (x1 : Int64) (x3 : Int32) (h : AH), Sim PP (6) k_X11_digest (77, [.inr (0, 0), .inl (.long x1), av0, .inl (.int x3)], [], h) (rc x1 x3 h) (fE PP (6) k_X11_digest 89 (fun v => [av0, .inl (.long v), av0, av0])))  (h : AH) : Sim PP (6) k_X11_digest (77, [.inr (0, 0), .inl (.long x1), av0, .inl (.int x3)], [], h) (b_X11_digest_77 rc x1 x3 h) (fE PP (6) k_X11_digest 89 (fun v => [av0, .inl (.long v), av0, av0])) := by
  unfold b_X11_digest_77
  refine S_br 3 89 80 [.inr (0, 0), .inl (.long x1), av0, .inl (.int x3)] [] h rfl (fun _ => ?_) (fun _ => ?_)
  · exact S_ex x1 (fun v => [av0, .inl (.long v), av0, av0]) rfl
  · refine S_grd 5 (85, [.inr (0, 0), .inl (.long x1), av0, .inl (.int x3)], [.inr (5, (x3.toNatClampNeg)), .inl (.long x1)], h) rfl (fun _ => ?_)
    refine S_dl 0 85 153 0 [.inr (0, 0), .inl (.long x1), av0, .inl (.int x3)] [.inr (5, (x3.toNatClampNeg)), .inl (.long x1)] [.inl (.long x1), av0, .inr (5, (x3.toNatClampNeg)), av0, av0, av0] [.inr (0, 0), .inl (.long x1), av0, .inl (.int x3)] [] h rfl rfl pp_153 (by decide) (s_X11_withText x1 (x3.toNatClampNeg) h) (fun y1 h2 => ?_)
    refine S_blk 3 (77, [.inr (0, 0), .inl (.long y1), av0, .inl (.int (x3 + (1 : Int32)))], [], h2) rfl ?_
    refine S_nrm [.inr (0, 0), .inl (.long y1), av0, .inl (.int (x3 + (1 : Int32)))] rfl ?_
    exact hrc y1 (x3 + (1 : Int32)) h2
theorem sl_X11_digest_77     : ∀ (F : Nat) (x1 : Int64) (x3 : Int32) (h : AH), Sim PP (6) k_X11_digest (77, [.inr (0, 0), .inl (.long x1), av0, .inl (.int x3)], [], h) (l_X11_digest_77 F x1 x3 h) (fE PP (6) k_X11_digest 89 (fun v => [av0, .inl (.long v), av0, av0])) := by
  intro F
  induction F with
  | zero => intro x1 x3 h; exact S_none
  | succ F ih => intro x1 x3 h; exact sb_X11_digest_77 (l_X11_digest_77 F) x1 x3 ih h
theorem sc_X11_digest_89    (x1 : Int64)  (h : AH) : Sim PP (6) k_X11_digest (89, [av0, .inl (.long x1), av0, av0], [], h) (c_X11_digest_89  x1 h) fL := by
  unfold c_X11_digest_89
  exact S_rl 1 (90, [av0, .inl (.long x1), av0, av0], [.inl (.long x1)], h) rfl rfl
theorem sc_X11_digest_75    (x1 : Int64)  (h : AH) : Sim PP (6) k_X11_digest (75, [.inr (0, 0), .inl (.long x1), av0, av0], [], h) (c_X11_digest_75  x1 h) fL := by
  unfold c_X11_digest_75
  refine S_blk 2 (77, [.inr (0, 0), .inl (.long x1), av0, .inl (.int (0 : Int32))], [], h) rfl ?_
  refine S_nrm [.inr (0, 0), .inl (.long x1), av0, .inl (.int (0 : Int32))] rfl ?_
  refine S_lp 89 (fun v => [av0, .inl (.long v), av0, av0]) (sl_X11_digest_77  FU x1 (0 : Int32) h) (fun v h => ?_)
  exact sc_X11_digest_89 v h
theorem sc_X11_digest_61    (x1 : Int64)  (h : AH) : Sim PP (6) k_X11_digest (61, [.inr (0, 0), .inl (.long x1), av0, av0], [], h) (c_X11_digest_61  x1 h) fL := by
  unfold c_X11_digest_61
  refine S_blk 2 (63, [.inr (0, 0), .inl (.long x1), av0, .inl (.int (0 : Int32))], [], h) rfl ?_
  refine S_nrm [.inr (0, 0), .inl (.long x1), av0, .inl (.int (0 : Int32))] rfl ?_
  refine S_lp 75 (fun v => [.inr (0, 0), .inl (.long v), av0, av0]) (sl_X11_digest_63  FU x1 (0 : Int32) h) (fun v h => ?_)
  exact sc_X11_digest_75 v h
theorem sc_X11_digest_18    (x1 : Int64)  (h : AH) : Sim PP (6) k_X11_digest (18, [.inr (0, 0), .inl (.long x1), av0, av0], [], h) (c_X11_digest_18  x1 h) fL := by
  unfold c_X11_digest_18
  refine S_dl 11 29 150 5 [.inr (0, 0), .inl (.long (((31 : Int64) * x1) + ((h.1 8 3 5).toInt64))), av0, av0] [.inl (.long (((31 : Int64) * x1) + ((h.1 8 3 5).toInt64))), .inr (0, 0)] [.inr (0, 0), .inl (.long (((31 : Int64) * x1) + ((h.1 8 3 5).toInt64))), av0, av0, av0, av0, av0] [.inr (0, 0), .inl (.long (((31 : Int64) * x1) + ((h.1 8 3 5).toInt64))), av0, av0] [] h rfl rfl pp_150 (by decide) (s_X11_withFacts (((31 : Int64) * x1) + ((h.1 8 3 5).toInt64)) h) (fun y1 h2 => ?_)
  refine S_dl 3 33 151 1 [.inr (0, 0), .inl (.long y1), av0, av0] [.inl (.long y1), .inr (0, 0)] [.inr (0, 0), .inl (.long y1), av0, av0, av0, av0] [.inr (0, 0), .inl (.long y1), av0, av0] [] h2 rfl rfl pp_151 (by decide) (s_X11_withEvening y1 h2) (fun y3 h4 => ?_)
  refine S_blk 3 (37, [.inr (0, 0), .inl (.long y3), av0, .inl (.int (0 : Int32))], [], h4) rfl ?_
  refine S_nrm [.inr (0, 0), .inl (.long y3), av0, .inl (.int (0 : Int32))] rfl ?_
  refine S_lp 61 (fun v => [.inr (0, 0), .inl (.long v), av0, av0]) (sl_X11_digest_37  FU y3 (0 : Int32) h4) (fun v h => ?_)
  exact sc_X11_digest_61 v h
theorem s_X11_digest  (h : AH) : Sim PP (6) k_X11_digest (0, [.inr (0, 0), av0, av0, av0], [], h) (f_X11_digest  h) fL := by
  unfold f_X11_digest
  refine S_blk 4 (4, [.inr (0, 0), .inl (.long (17 : Int64)), av0, .inl (.int (0 : Int32))], [], h) rfl ?_
  refine S_nrm [.inr (0, 0), .inl (.long (17 : Int64)), av0, .inl (.int (0 : Int32))] rfl ?_
  refine S_lp 18 (fun v => [.inr (0, 0), .inl (.long v), av0, av0]) (sl_X11_digest_4  FU (17 : Int64) (0 : Int32) h) (fun v h => ?_)
  exact sc_X11_digest_18 v h
theorem s_X12_mix (x1 : Int64) (h : AH) : Sim PP (0) k_X12_mix (0, [.inr (34, 0), .inl (.long x1), av0], [], h) (f_X12_mix x1 h) fV := by
  unfold f_X12_mix
  exact S_rv 8 (8, [.inr (34, 0), .inl (.long x1), av0], [], (hsL h 34 0 39 (((31 : Int64) * (h.2 34 0 39)) + x1))) rfl rfl
theorem sb_X12_mixRoom_13  (rc : Int32 → Int32 → AH → Option (Unit × AH)) (x1 : Int32) (x2 : Int32) (hrc : ∀ (x2 : Int32) (h : AH), Sim PP (4) k_X12_mixRoom (13, [.inr (34, 0), .inl (.int x1), .inl (.int x2)], [], h) (rc x1 x2 h) (fE PP (4) k_X12_mixRoom 25 (fun v => [.inr (34, 0), .inl (.int x1), av0])))  (h : AH) : Sim PP (4) k_X12_mixRoom (13, [.inr (34, 0), .inl (.int x1), .inl (.int x2)], [], h) (b_X12_mixRoom_13 rc x1 x2 h) (fE PP (4) k_X12_mixRoom 25 (fun v => [.inr (34, 0), .inl (.int x1), av0])) := by
  unfold b_X12_mixRoom_13
  refine S_br 3 25 16 [.inr (34, 0), .inl (.int x1), .inl (.int x2)] [] h rfl (fun _ => ?_) (fun _ => ?_)
  · exact S_ex () (fun v => [.inr (34, 0), .inl (.int x1), av0]) rfl
  · refine S_di 4 20 204 3 [.inr (34, 0), .inl (.int x1), .inl (.int x2)] [.inl (.int x2), .inl (.int x1), .inr (34, 0), .inr (34, 0)] [.inr (34, 0), .inl (.int x1), .inl (.int x2)] [.inr (34, 0), .inl (.int x1), .inl (.int x2)] [.inr (34, 0)] h rfl rfl pp_204 (by decide) (s_X12_claimTells x1 x2 h) (fun y1 h2 => ?_)
    refine S_dv 1 22 268 0 [.inr (34, 0), .inl (.int x1), .inl (.int x2)] [.inl (.long y1.toInt64), .inr (34, 0)] [.inr (34, 0), .inl (.long y1.toInt64), av0] [.inr (34, 0), .inl (.int x1), .inl (.int x2)] [] h2 rfl rfl pp_268 (by decide) (s_X12_mix y1.toInt64 h2) (fun _ h4 => ?_)
    refine S_blk 2 (13, [.inr (34, 0), .inl (.int x1), .inl (.int (x2 + (1 : Int32)))], [], h4) rfl ?_
    refine S_nrm [.inr (34, 0), .inl (.int x1), .inl (.int (x2 + (1 : Int32)))] rfl ?_
    exact hrc (x2 + (1 : Int32)) h4
theorem sl_X12_mixRoom_13    (x1 : Int32) : ∀ (F : Nat) (x2 : Int32) (h : AH), Sim PP (4) k_X12_mixRoom (13, [.inr (34, 0), .inl (.int x1), .inl (.int x2)], [], h) (l_X12_mixRoom_13 F x1 x2 h) (fE PP (4) k_X12_mixRoom 25 (fun v => [.inr (34, 0), .inl (.int x1), av0])) := by
  intro F
  induction F with
  | zero => intro x2 h; exact S_none
  | succ F ih => intro x2 h; exact sb_X12_mixRoom_13 (l_X12_mixRoom_13 F) x1 x2 ih h
theorem sc_X12_mixRoom_25  (rc : Int32 → AH → Option (Unit × AH))  (x1 : Int32) (hrc : ∀ (x1 : Int32) (h : AH), Sim PP (4) k_X12_mixRoom (7, [.inr (34, 0), .inl (.int x1), av0], [], h) (rc x1 h) (fE PP (4) k_X12_mixRoom 27 (fun v => [.inr (34, 0), av0, av0]))) (h : AH) : Sim PP (4) k_X12_mixRoom (25, [.inr (34, 0), .inl (.int x1), av0], [], h) (c_X12_mixRoom_25 rc x1 h) (fE PP (4) k_X12_mixRoom 27 (fun v => [.inr (34, 0), av0, av0])) := by
  unfold c_X12_mixRoom_25
  refine S_blk 2 (7, [.inr (34, 0), .inl (.int (x1 + (1 : Int32))), av0], [], h) rfl ?_
  refine S_nrm [.inr (34, 0), .inl (.int (x1 + (1 : Int32))), av0] rfl ?_
  exact hrc (x1 + (1 : Int32)) h
theorem sb_X12_mixRoom_7  (rc : Int32 → AH → Option (Unit × AH)) (x1 : Int32) (hrc : ∀ (x1 : Int32) (h : AH), Sim PP (4) k_X12_mixRoom (7, [.inr (34, 0), .inl (.int x1), av0], [], h) (rc x1 h) (fE PP (4) k_X12_mixRoom 27 (fun v => [.inr (34, 0), av0, av0])))  (h : AH) : Sim PP (4) k_X12_mixRoom (7, [.inr (34, 0), .inl (.int x1), av0], [], h) (b_X12_mixRoom_7 rc x1 h) (fE PP (4) k_X12_mixRoom 27 (fun v => [.inr (34, 0), av0, av0])) := by
  unfold b_X12_mixRoom_7
  refine S_br 4 27 11 [.inr (34, 0), .inl (.int x1), av0] [] h rfl (fun _ => ?_) (fun _ => ?_)
  · exact S_ex () (fun v => [.inr (34, 0), av0, av0]) rfl
  · refine S_blk 2 (13, [.inr (34, 0), .inl (.int x1), .inl (.int (0 : Int32))], [], h) rfl ?_
    refine S_nrm [.inr (34, 0), .inl (.int x1), .inl (.int (0 : Int32))] rfl ?_
    refine S_lp 25 (fun v => [.inr (34, 0), .inl (.int x1), av0]) (sl_X12_mixRoom_13 x1 FU (0 : Int32) h) (fun v h => ?_)
    exact sc_X12_mixRoom_25 rc x1 hrc h
theorem sl_X12_mixRoom_7     : ∀ (F : Nat) (x1 : Int32) (h : AH), Sim PP (4) k_X12_mixRoom (7, [.inr (34, 0), .inl (.int x1), av0], [], h) (l_X12_mixRoom_7 F x1 h) (fE PP (4) k_X12_mixRoom 27 (fun v => [.inr (34, 0), av0, av0])) := by
  intro F
  induction F with
  | zero => intro x1 h; exact S_none
  | succ F ih => intro x1 h; exact sb_X12_mixRoom_7 (l_X12_mixRoom_7 F) x1 ih h
theorem sb_X12_mixRoom_35  (rc : Int32 → Int32 → AH → Option (Unit × AH)) (x1 : Int32) (x2 : Int32) (hrc : ∀ (x2 : Int32) (h : AH), Sim PP (4) k_X12_mixRoom (35, [.inr (34, 0), .inl (.int x1), .inl (.int x2)], [], h) (rc x1 x2 h) (fE PP (4) k_X12_mixRoom 47 (fun v => [.inr (34, 0), .inl (.int x1), av0])))  (h : AH) : Sim PP (4) k_X12_mixRoom (35, [.inr (34, 0), .inl (.int x1), .inl (.int x2)], [], h) (b_X12_mixRoom_35 rc x1 x2 h) (fE PP (4) k_X12_mixRoom 47 (fun v => [.inr (34, 0), .inl (.int x1), av0])) := by
  unfold b_X12_mixRoom_35
  refine S_br 3 47 38 [.inr (34, 0), .inl (.int x1), .inl (.int x2)] [] h rfl (fun _ => ?_) (fun _ => ?_)
  · exact S_ex () (fun v => [.inr (34, 0), .inl (.int x1), av0]) rfl
  · refine S_di 4 42 206 0 [.inr (34, 0), .inl (.int x1), .inl (.int x2)] [.inl (.int x2), .inl (.int x1), .inr (34, 0), .inr (34, 0)] [.inr (34, 0), .inl (.int x1), .inl (.int x2)] [.inr (34, 0), .inl (.int x1), .inl (.int x2)] [.inr (34, 0)] h rfl rfl pp_206 (by decide) (s_X12_reasonTells x1 x2 h) (fun y1 h2 => ?_)
    refine S_dv 1 44 268 0 [.inr (34, 0), .inl (.int x1), .inl (.int x2)] [.inl (.long y1.toInt64), .inr (34, 0)] [.inr (34, 0), .inl (.long y1.toInt64), av0] [.inr (34, 0), .inl (.int x1), .inl (.int x2)] [] h2 rfl rfl pp_268 (by decide) (s_X12_mix y1.toInt64 h2) (fun _ h4 => ?_)
    refine S_blk 2 (35, [.inr (34, 0), .inl (.int x1), .inl (.int (x2 + (1 : Int32)))], [], h4) rfl ?_
    refine S_nrm [.inr (34, 0), .inl (.int x1), .inl (.int (x2 + (1 : Int32)))] rfl ?_
    exact hrc (x2 + (1 : Int32)) h4
theorem sl_X12_mixRoom_35    (x1 : Int32) : ∀ (F : Nat) (x2 : Int32) (h : AH), Sim PP (4) k_X12_mixRoom (35, [.inr (34, 0), .inl (.int x1), .inl (.int x2)], [], h) (l_X12_mixRoom_35 F x1 x2 h) (fE PP (4) k_X12_mixRoom 47 (fun v => [.inr (34, 0), .inl (.int x1), av0])) := by
  intro F
  induction F with
  | zero => intro x2 h; exact S_none
  | succ F ih => intro x2 h; exact sb_X12_mixRoom_35 (l_X12_mixRoom_35 F) x1 x2 ih h
theorem sc_X12_mixRoom_47  (rc : Int32 → AH → Option (Unit × AH))  (x1 : Int32) (hrc : ∀ (x1 : Int32) (h : AH), Sim PP (4) k_X12_mixRoom (29, [.inr (34, 0), .inl (.int x1), av0], [], h) (rc x1 h) (fE PP (4) k_X12_mixRoom 49 (fun v => [.inr (34, 0), av0, av0]))) (h : AH) : Sim PP (4) k_X12_mixRoom (47, [.inr (34, 0), .inl (.int x1), av0], [], h) (c_X12_mixRoom_47 rc x1 h) (fE PP (4) k_X12_mixRoom 49 (fun v => [.inr (34, 0), av0, av0])) := by
  unfold c_X12_mixRoom_47
  refine S_blk 2 (29, [.inr (34, 0), .inl (.int (x1 + (1 : Int32))), av0], [], h) rfl ?_
  refine S_nrm [.inr (34, 0), .inl (.int (x1 + (1 : Int32))), av0] rfl ?_
  exact hrc (x1 + (1 : Int32)) h
theorem sb_X12_mixRoom_29  (rc : Int32 → AH → Option (Unit × AH)) (x1 : Int32) (hrc : ∀ (x1 : Int32) (h : AH), Sim PP (4) k_X12_mixRoom (29, [.inr (34, 0), .inl (.int x1), av0], [], h) (rc x1 h) (fE PP (4) k_X12_mixRoom 49 (fun v => [.inr (34, 0), av0, av0])))  (h : AH) : Sim PP (4) k_X12_mixRoom (29, [.inr (34, 0), .inl (.int x1), av0], [], h) (b_X12_mixRoom_29 rc x1 h) (fE PP (4) k_X12_mixRoom 49 (fun v => [.inr (34, 0), av0, av0])) := by
  unfold b_X12_mixRoom_29
  refine S_br 4 49 33 [.inr (34, 0), .inl (.int x1), av0] [] h rfl (fun _ => ?_) (fun _ => ?_)
  · exact S_ex () (fun v => [.inr (34, 0), av0, av0]) rfl
  · refine S_blk 2 (35, [.inr (34, 0), .inl (.int x1), .inl (.int (0 : Int32))], [], h) rfl ?_
    refine S_nrm [.inr (34, 0), .inl (.int x1), .inl (.int (0 : Int32))] rfl ?_
    refine S_lp 47 (fun v => [.inr (34, 0), .inl (.int x1), av0]) (sl_X12_mixRoom_35 x1 FU (0 : Int32) h) (fun v h => ?_)
    exact sc_X12_mixRoom_47 rc x1 hrc h
theorem sl_X12_mixRoom_29     : ∀ (F : Nat) (x1 : Int32) (h : AH), Sim PP (4) k_X12_mixRoom (29, [.inr (34, 0), .inl (.int x1), av0], [], h) (l_X12_mixRoom_29 F x1 h) (fE PP (4) k_X12_mixRoom 49 (fun v => [.inr (34, 0), av0, av0])) := by
  intro F
  induction F with
  | zero => intro x1 h; exact S_none
  | succ F ih => intro x1 h; exact sb_X12_mixRoom_29 (l_X12_mixRoom_29 F) x1 ih h
theorem sb_X12_mixRoom_51  (rc : Int32 → AH → Option (Unit × AH)) (x1 : Int32) (hrc : ∀ (x1 : Int32) (h : AH), Sim PP (4) k_X12_mixRoom (51, [.inr (34, 0), .inl (.int x1), av0], [], h) (rc x1 h) (fE PP (4) k_X12_mixRoom 64 (fun v => [.inr (34, 0), av0, av0])))  (h : AH) : Sim PP (4) k_X12_mixRoom (51, [.inr (34, 0), .inl (.int x1), av0], [], h) (b_X12_mixRoom_51 rc x1 h) (fE PP (4) k_X12_mixRoom 64 (fun v => [.inr (34, 0), av0, av0])) := by
  unfold b_X12_mixRoom_51
  refine S_br 4 64 55 [.inr (34, 0), .inl (.int x1), av0] [] h rfl (fun _ => ?_) (fun _ => ?_)
  · exact S_ex () (fun v => [.inr (34, 0), av0, av0]) rfl
  · refine S_grd 5 (60, [.inr (34, 0), .inl (.int x1), av0], [.inl (.int (h.1 49 0 x1.toNatClampNeg)), .inr (34, 0)], h) rfl (fun _ => ?_)
    refine S_dv 1 61 268 0 [.inr (34, 0), .inl (.int x1), av0] [.inl (.long ((h.1 49 0 x1.toNatClampNeg).toInt64)), .inr (34, 0)] [.inr (34, 0), .inl (.long ((h.1 49 0 x1.toNatClampNeg).toInt64)), av0] [.inr (34, 0), .inl (.int x1), av0] [] h rfl rfl pp_268 (by decide) (s_X12_mix ((h.1 49 0 x1.toNatClampNeg).toInt64) h) (fun _ h2 => ?_)
    refine S_blk 2 (51, [.inr (34, 0), .inl (.int (x1 + (1 : Int32))), av0], [], h2) rfl ?_
    refine S_nrm [.inr (34, 0), .inl (.int (x1 + (1 : Int32))), av0] rfl ?_
    exact hrc (x1 + (1 : Int32)) h2
theorem sl_X12_mixRoom_51     : ∀ (F : Nat) (x1 : Int32) (h : AH), Sim PP (4) k_X12_mixRoom (51, [.inr (34, 0), .inl (.int x1), av0], [], h) (l_X12_mixRoom_51 F x1 h) (fE PP (4) k_X12_mixRoom 64 (fun v => [.inr (34, 0), av0, av0])) := by
  intro F
  induction F with
  | zero => intro x1 h; exact S_none
  | succ F ih => intro x1 h; exact sb_X12_mixRoom_51 (l_X12_mixRoom_51 F) x1 ih h
theorem sb_X12_mixRoom_72  (rc : Int32 → AH → Option (Unit × AH)) (x1 : Int32) (hrc : ∀ (x1 : Int32) (h : AH), Sim PP (4) k_X12_mixRoom (72, [.inr (34, 0), .inl (.int x1), av0], [], h) (rc x1 h) (fE PP (4) k_X12_mixRoom 95 (fun v => [av0, av0, av0])))  (h : AH) : Sim PP (4) k_X12_mixRoom (72, [.inr (34, 0), .inl (.int x1), av0], [], h) (b_X12_mixRoom_72 rc x1 h) (fE PP (4) k_X12_mixRoom 95 (fun v => [av0, av0, av0])) := by
  unfold b_X12_mixRoom_72
  refine S_br 3 95 75 [.inr (34, 0), .inl (.int x1), av0] [] h rfl (fun _ => ?_) (fun _ => ?_)
  · exact S_ex () (fun v => [av0, av0, av0]) rfl
  · refine S_grd 5 (80, [.inr (34, 0), .inl (.int x1), av0], [.inl (.int (h.1 50 0 x1.toNatClampNeg)), .inr (34, 0)], h) rfl (fun _ => ?_)
    refine S_br 1 91 81 [.inr (34, 0), .inl (.int x1), av0] [.inr (34, 0)] h rfl (fun _ => ?_) (fun _ => ?_)
    · refine S_dv 1 92 268 0 [.inr (34, 0), .inl (.int x1), av0] [.inl (.long (-1 : Int64)), .inr (34, 0)] [.inr (34, 0), .inl (.long (-1 : Int64)), av0] [.inr (34, 0), .inl (.int x1), av0] [] h rfl rfl pp_268 (by decide) (s_X12_mix (-1 : Int64) h) (fun _ h2 => ?_)
      refine S_blk 2 (72, [.inr (34, 0), .inl (.int (x1 + (1 : Int32))), av0], [], h2) rfl ?_
      refine S_nrm [.inr (34, 0), .inl (.int (x1 + (1 : Int32))), av0] rfl ?_
      exact hrc (x1 + (1 : Int32)) h2
    · refine S_grd 5 (86, [.inr (34, 0), .inl (.int x1), av0], [.inl (.int (h.1 51 0 x1.toNatClampNeg)), .inl (.int (0 : Int32)), .inr (34, 0)], h) rfl (fun _ => ?_)
      refine S_di 2 88 158 0 [.inr (34, 0), .inl (.int x1), av0] [.inl (.int ((h.1 51 0 x1.toNatClampNeg) - (1 : Int32))), .inl (.int (0 : Int32)), .inr (34, 0)] [.inl (.int (0 : Int32)), .inl (.int ((h.1 51 0 x1.toNatClampNeg) - (1 : Int32)))] [.inr (34, 0), .inl (.int x1), av0] [.inr (34, 0)] h rfl rfl pp_158 (by decide) (s_X12_greater (0 : Int32) ((h.1 51 0 x1.toNatClampNeg) - (1 : Int32)) h) (fun y3 h4 => ?_)
      refine S_dv 2 92 268 0 [.inr (34, 0), .inl (.int x1), av0] [.inl (.long y3.toInt64), .inr (34, 0)] [.inr (34, 0), .inl (.long y3.toInt64), av0] [.inr (34, 0), .inl (.int x1), av0] [] h4 rfl rfl pp_268 (by decide) (s_X12_mix y3.toInt64 h4) (fun _ h6 => ?_)
      refine S_blk 2 (72, [.inr (34, 0), .inl (.int (x1 + (1 : Int32))), av0], [], h6) rfl ?_
      refine S_nrm [.inr (34, 0), .inl (.int (x1 + (1 : Int32))), av0] rfl ?_
      exact hrc (x1 + (1 : Int32)) h6
theorem sl_X12_mixRoom_72     : ∀ (F : Nat) (x1 : Int32) (h : AH), Sim PP (4) k_X12_mixRoom (72, [.inr (34, 0), .inl (.int x1), av0], [], h) (l_X12_mixRoom_72 F x1 h) (fE PP (4) k_X12_mixRoom 95 (fun v => [av0, av0, av0])) := by
  intro F
  induction F with
  | zero => intro x1 h; exact S_none
  | succ F ih => intro x1 h; exact sb_X12_mixRoom_72 (l_X12_mixRoom_72 F) x1 ih h
theorem sc_X12_mixRoom_95      (h : AH) : Sim PP (4) k_X12_mixRoom (95, [av0, av0, av0], [], h) (c_X12_mixRoom_95   h) fV := by
  unfold c_X12_mixRoom_95
  exact S_rv 0 (95, [av0, av0, av0], [], h) rfl rfl
theorem sc_X12_mixRoom_64      (h : AH) : Sim PP (4) k_X12_mixRoom (64, [.inr (34, 0), av0, av0], [], h) (c_X12_mixRoom_64   h) fV := by
  unfold c_X12_mixRoom_64
  refine S_br 3 67 70 [.inr (34, 0), av0, av0] [] h rfl (fun _ => ?_) (fun _ => ?_)
  · refine S_dv 2 69 268 0 [.inr (34, 0), av0, av0] [.inl (.long (-1 : Int64)), .inr (34, 0)] [.inr (34, 0), .inl (.long (-1 : Int64)), av0] [.inr (34, 0), av0, av0] [] h rfl rfl pp_268 (by decide) (s_X12_mix (-1 : Int64) h) (fun _ h2 => ?_)
    refine S_blk 2 (72, [.inr (34, 0), .inl (.int (0 : Int32)), av0], [], h2) rfl ?_
    refine S_nrm [.inr (34, 0), .inl (.int (0 : Int32)), av0] rfl ?_
    refine S_lp 95 (fun v => [av0, av0, av0]) (sl_X12_mixRoom_72  FU (0 : Int32) h2) (fun v h => ?_)
    exact sc_X12_mixRoom_95 h
  · refine S_blk 2 (72, [.inr (34, 0), .inl (.int (0 : Int32)), av0], [], h) rfl ?_
    refine S_nrm [.inr (34, 0), .inl (.int (0 : Int32)), av0] rfl ?_
    refine S_lp 95 (fun v => [av0, av0, av0]) (sl_X12_mixRoom_72  FU (0 : Int32) h) (fun v h => ?_)
    exact sc_X12_mixRoom_95 h
theorem sc_X12_mixRoom_49      (h : AH) : Sim PP (4) k_X12_mixRoom (49, [.inr (34, 0), av0, av0], [], h) (c_X12_mixRoom_49   h) fV := by
  unfold c_X12_mixRoom_49
  refine S_blk 2 (51, [.inr (34, 0), .inl (.int (0 : Int32)), av0], [], h) rfl ?_
  refine S_nrm [.inr (34, 0), .inl (.int (0 : Int32)), av0] rfl ?_
  refine S_lp 64 (fun v => [.inr (34, 0), av0, av0]) (sl_X12_mixRoom_51  FU (0 : Int32) h) (fun v h => ?_)
  exact sc_X12_mixRoom_64 h
theorem sc_X12_mixRoom_27      (h : AH) : Sim PP (4) k_X12_mixRoom (27, [.inr (34, 0), av0, av0], [], h) (c_X12_mixRoom_27   h) fV := by
  unfold c_X12_mixRoom_27
  refine S_blk 2 (29, [.inr (34, 0), .inl (.int (0 : Int32)), av0], [], h) rfl ?_
  refine S_nrm [.inr (34, 0), .inl (.int (0 : Int32)), av0] rfl ?_
  refine S_lp 49 (fun v => [.inr (34, 0), av0, av0]) (sl_X12_mixRoom_29  FU (0 : Int32) h) (fun v h => ?_)
  exact sc_X12_mixRoom_49 h
theorem s_X12_mixRoom  (h : AH) : Sim PP (4) k_X12_mixRoom (0, [.inr (34, 0), av0, av0], [], h) (f_X12_mixRoom  h) fV := by
  unfold f_X12_mixRoom
  refine S_dv 4 4 268 0 [.inr (34, 0), av0, av0] [.inl (.long ((h.1 34 0 18).toInt64)), .inr (34, 0)] [.inr (34, 0), .inl (.long ((h.1 34 0 18).toInt64)), av0] [.inr (34, 0), av0, av0] [] h rfl rfl pp_268 (by decide) (s_X12_mix ((h.1 34 0 18).toInt64) h) (fun _ h2 => ?_)
  refine S_blk 2 (7, [.inr (34, 0), .inl (.int (0 : Int32)), av0], [], h2) rfl ?_
  refine S_nrm [.inr (34, 0), .inl (.int (0 : Int32)), av0] rfl ?_
  refine S_lp 27 (fun v => [.inr (34, 0), av0, av0]) (sl_X12_mixRoom_7  FU (0 : Int32) h2) (fun v h => ?_)
  exact sc_X12_mixRoom_27 h
theorem sb_X12_digest_5  (rc : Int32 → AH → Option (Unit × AH)) (x1 : Int32) (hrc : ∀ (x1 : Int32) (h : AH), Sim PP (5) k_X12_digest (5, [.inr (34, 0), .inl (.int x1), av0], [], h) (rc x1 h) (fE PP (5) k_X12_digest 16 (fun v => [.inr (34, 0), av0, av0])))  (h : AH) : Sim PP (5) k_X12_digest (5, [.inr (34, 0), .inl (.int x1), av0], [], h) (b_X12_digest_5 rc x1 h) (fE PP (5) k_X12_digest 16 (fun v => [.inr (34, 0), av0, av0])) := by
  unfold b_X12_digest_5
  refine S_br 3 16 8 [.inr (34, 0), .inl (.int x1), av0] [] h rfl (fun _ => ?_) (fun _ => ?_)
  · exact S_ex () (fun v => [.inr (34, 0), av0, av0]) rfl
  · refine S_di 3 11 266 2 [.inr (34, 0), .inl (.int x1), av0] [.inl (.int x1), .inr (34, 0), .inr (34, 0)] [.inr (34, 0), .inl (.int x1), av0, av0] [.inr (34, 0), .inl (.int x1), av0] [.inr (34, 0)] h rfl rfl pp_266 (by decide) (s_X12_counted x1 h) (fun y1 h2 => ?_)
    refine S_dv 1 13 268 0 [.inr (34, 0), .inl (.int x1), av0] [.inl (.long y1.toInt64), .inr (34, 0)] [.inr (34, 0), .inl (.long y1.toInt64), av0] [.inr (34, 0), .inl (.int x1), av0] [] h2 rfl rfl pp_268 (by decide) (s_X12_mix y1.toInt64 h2) (fun _ h4 => ?_)
    refine S_blk 2 (5, [.inr (34, 0), .inl (.int (x1 + (1 : Int32))), av0], [], h4) rfl ?_
    refine S_nrm [.inr (34, 0), .inl (.int (x1 + (1 : Int32))), av0] rfl ?_
    exact hrc (x1 + (1 : Int32)) h4
theorem sl_X12_digest_5     : ∀ (F : Nat) (x1 : Int32) (h : AH), Sim PP (5) k_X12_digest (5, [.inr (34, 0), .inl (.int x1), av0], [], h) (l_X12_digest_5 F x1 h) (fE PP (5) k_X12_digest 16 (fun v => [.inr (34, 0), av0, av0])) := by
  intro F
  induction F with
  | zero => intro x1 h; exact S_none
  | succ F ih => intro x1 h; exact sb_X12_digest_5 (l_X12_digest_5 F) x1 ih h
theorem sb_X12_digest_32  (rc : Int32 → Int32 → AH → Option (Unit × AH)) (x1 : Int32) (x2 : Int32) (hrc : ∀ (x2 : Int32) (h : AH), Sim PP (5) k_X12_digest (32, [.inr (34, 0), .inl (.int x1), .inl (.int x2)], [], h) (rc x1 x2 h) (fE PP (5) k_X12_digest 47 (fun v => [.inr (34, 0), .inl (.int x1), av0])))  (h : AH) : Sim PP (5) k_X12_digest (32, [.inr (34, 0), .inl (.int x1), .inl (.int x2)], [], h) (b_X12_digest_32 rc x1 x2 h) (fE PP (5) k_X12_digest 47 (fun v => [.inr (34, 0), .inl (.int x1), av0])) := by
  unfold b_X12_digest_32
  refine S_grd 5 (37, [.inr (34, 0), .inl (.int x1), .inl (.int x2)], [.inl (.int (h.1 36 0 x1.toNatClampNeg)), .inl (.int x2)], h) rfl (fun _ => ?_)
  refine S_br 1 47 38 [.inr (34, 0), .inl (.int x1), .inl (.int x2)] [] h rfl (fun _ => ?_) (fun _ => ?_)
  · exact S_ex () (fun v => [.inr (34, 0), .inl (.int x1), av0]) rfl
  · refine S_di 4 42 168 0 [.inr (34, 0), .inl (.int x1), .inl (.int x2)] [.inl (.int x2), .inl (.int x1), .inr (34, 0), .inr (34, 0)] [.inr (34, 0), .inl (.int x1), .inl (.int x2)] [.inr (34, 0), .inl (.int x1), .inl (.int x2)] [.inr (34, 0)] h rfl rfl pp_168 (by decide) (s_X12_rowAt x1 x2 h) (fun y1 h2 => ?_)
    refine S_dv 1 44 268 0 [.inr (34, 0), .inl (.int x1), .inl (.int x2)] [.inl (.long y1.toInt64), .inr (34, 0)] [.inr (34, 0), .inl (.long y1.toInt64), av0] [.inr (34, 0), .inl (.int x1), .inl (.int x2)] [] h2 rfl rfl pp_268 (by decide) (s_X12_mix y1.toInt64 h2) (fun _ h4 => ?_)
    refine S_blk 2 (32, [.inr (34, 0), .inl (.int x1), .inl (.int (x2 + (1 : Int32)))], [], h4) rfl ?_
    refine S_nrm [.inr (34, 0), .inl (.int x1), .inl (.int (x2 + (1 : Int32)))] rfl ?_
    exact hrc (x2 + (1 : Int32)) h4
theorem sl_X12_digest_32    (x1 : Int32) : ∀ (F : Nat) (x2 : Int32) (h : AH), Sim PP (5) k_X12_digest (32, [.inr (34, 0), .inl (.int x1), .inl (.int x2)], [], h) (l_X12_digest_32 F x1 x2 h) (fE PP (5) k_X12_digest 47 (fun v => [.inr (34, 0), .inl (.int x1), av0])) := by
  intro F
  induction F with
  | zero => intro x2 h; exact S_none
  | succ F ih => intro x2 h; exact sb_X12_digest_32 (l_X12_digest_32 F) x1 x2 ih h
theorem sc_X12_digest_47  (rc : Int32 → AH → Option (Unit × AH))  (x1 : Int32) (hrc : ∀ (x1 : Int32) (h : AH), Sim PP (5) k_X12_digest (20, [.inr (34, 0), .inl (.int x1), av0], [], h) (rc x1 h) (fE PP (5) k_X12_digest 49 (fun v => [.inr (34, 0), av0, av0]))) (h : AH) : Sim PP (5) k_X12_digest (47, [.inr (34, 0), .inl (.int x1), av0], [], h) (c_X12_digest_47 rc x1 h) (fE PP (5) k_X12_digest 49 (fun v => [.inr (34, 0), av0, av0])) := by
  unfold c_X12_digest_47
  refine S_blk 2 (20, [.inr (34, 0), .inl (.int (x1 + (1 : Int32))), av0], [], h) rfl ?_
  refine S_nrm [.inr (34, 0), .inl (.int (x1 + (1 : Int32))), av0] rfl ?_
  exact hrc (x1 + (1 : Int32)) h
theorem sb_X12_digest_20  (rc : Int32 → AH → Option (Unit × AH)) (x1 : Int32) (hrc : ∀ (x1 : Int32) (h : AH), Sim PP (5) k_X12_digest (20, [.inr (34, 0), .inl (.int x1), av0], [], h) (rc x1 h) (fE PP (5) k_X12_digest 49 (fun v => [.inr (34, 0), av0, av0])))  (h : AH) : Sim PP (5) k_X12_digest (20, [.inr (34, 0), .inl (.int x1), av0], [], h) (b_X12_digest_20 rc x1 h) (fE PP (5) k_X12_digest 49 (fun v => [.inr (34, 0), av0, av0])) := by
  unfold b_X12_digest_20
  refine S_br 3 49 23 [.inr (34, 0), .inl (.int x1), av0] [] h rfl (fun _ => ?_) (fun _ => ?_)
  · exact S_ex () (fun v => [.inr (34, 0), av0, av0]) rfl
  · refine S_grd 5 (28, [.inr (34, 0), .inl (.int x1), av0], [.inl (.int (h.1 36 0 x1.toNatClampNeg)), .inr (34, 0)], h) rfl (fun _ => ?_)
    refine S_dv 1 29 268 0 [.inr (34, 0), .inl (.int x1), av0] [.inl (.long ((h.1 36 0 x1.toNatClampNeg).toInt64)), .inr (34, 0)] [.inr (34, 0), .inl (.long ((h.1 36 0 x1.toNatClampNeg).toInt64)), av0] [.inr (34, 0), .inl (.int x1), av0] [] h rfl rfl pp_268 (by decide) (s_X12_mix ((h.1 36 0 x1.toNatClampNeg).toInt64) h) (fun _ h2 => ?_)
    refine S_blk 2 (32, [.inr (34, 0), .inl (.int x1), .inl (.int (0 : Int32))], [], h2) rfl ?_
    refine S_nrm [.inr (34, 0), .inl (.int x1), .inl (.int (0 : Int32))] rfl ?_
    refine S_lp 47 (fun v => [.inr (34, 0), .inl (.int x1), av0]) (sl_X12_digest_32 x1 FU (0 : Int32) h2) (fun v h => ?_)
    exact sc_X12_digest_47 rc x1 hrc h
theorem sl_X12_digest_20     : ∀ (F : Nat) (x1 : Int32) (h : AH), Sim PP (5) k_X12_digest (20, [.inr (34, 0), .inl (.int x1), av0], [], h) (l_X12_digest_20 F x1 h) (fE PP (5) k_X12_digest 49 (fun v => [.inr (34, 0), av0, av0])) := by
  intro F
  induction F with
  | zero => intro x1 h; exact S_none
  | succ F ih => intro x1 h; exact sb_X12_digest_20 (l_X12_digest_20 F) x1 ih h
theorem sb_X12_digest_63  (rc : Int32 → Int32 → AH → Option (Unit × AH)) (x1 : Int32) (x2 : Int32) (hrc : ∀ (x2 : Int32) (h : AH), Sim PP (5) k_X12_digest (63, [.inr (34, 0), .inl (.int x1), .inl (.int x2)], [], h) (rc x1 x2 h) (fE PP (5) k_X12_digest 78 (fun v => [.inr (34, 0), .inl (.int x1), av0])))  (h : AH) : Sim PP (5) k_X12_digest (63, [.inr (34, 0), .inl (.int x1), .inl (.int x2)], [], h) (b_X12_digest_63 rc x1 x2 h) (fE PP (5) k_X12_digest 78 (fun v => [.inr (34, 0), .inl (.int x1), av0])) := by
  unfold b_X12_digest_63
  refine S_grd 5 (68, [.inr (34, 0), .inl (.int x1), .inl (.int x2)], [.inl (.int (h.1 39 0 x1.toNatClampNeg)), .inl (.int x2)], h) rfl (fun _ => ?_)
  refine S_br 1 78 69 [.inr (34, 0), .inl (.int x1), .inl (.int x2)] [] h rfl (fun _ => ?_) (fun _ => ?_)
  · exact S_ex () (fun v => [.inr (34, 0), .inl (.int x1), av0]) rfl
  · refine S_di 4 73 178 0 [.inr (34, 0), .inl (.int x1), .inl (.int x2)] [.inl (.int x2), .inl (.int x1), .inr (34, 0), .inr (34, 0)] [.inr (34, 0), .inl (.int x1), .inl (.int x2)] [.inr (34, 0), .inl (.int x1), .inl (.int x2)] [.inr (34, 0)] h rfl rfl pp_178 (by decide) (s_X12_byteAt x1 x2 h) (fun y1 h2 => ?_)
    refine S_dv 1 75 268 0 [.inr (34, 0), .inl (.int x1), .inl (.int x2)] [.inl (.long y1.toInt64), .inr (34, 0)] [.inr (34, 0), .inl (.long y1.toInt64), av0] [.inr (34, 0), .inl (.int x1), .inl (.int x2)] [] h2 rfl rfl pp_268 (by decide) (s_X12_mix y1.toInt64 h2) (fun _ h4 => ?_)
    refine S_blk 2 (63, [.inr (34, 0), .inl (.int x1), .inl (.int (x2 + (1 : Int32)))], [], h4) rfl ?_
    refine S_nrm [.inr (34, 0), .inl (.int x1), .inl (.int (x2 + (1 : Int32)))] rfl ?_
    exact hrc (x2 + (1 : Int32)) h4
theorem sl_X12_digest_63    (x1 : Int32) : ∀ (F : Nat) (x2 : Int32) (h : AH), Sim PP (5) k_X12_digest (63, [.inr (34, 0), .inl (.int x1), .inl (.int x2)], [], h) (l_X12_digest_63 F x1 x2 h) (fE PP (5) k_X12_digest 78 (fun v => [.inr (34, 0), .inl (.int x1), av0])) := by
  intro F
  induction F with
  | zero => intro x2 h; exact S_none
  | succ F ih => intro x2 h; exact sb_X12_digest_63 (l_X12_digest_63 F) x1 x2 ih h
theorem sc_X12_digest_78  (rc : Int32 → AH → Option (Unit × AH))  (x1 : Int32) (hrc : ∀ (x1 : Int32) (h : AH), Sim PP (5) k_X12_digest (51, [.inr (34, 0), .inl (.int x1), av0], [], h) (rc x1 h) (fE PP (5) k_X12_digest 80 (fun v => [.inr (34, 0), av0, av0]))) (h : AH) : Sim PP (5) k_X12_digest (78, [.inr (34, 0), .inl (.int x1), av0], [], h) (c_X12_digest_78 rc x1 h) (fE PP (5) k_X12_digest 80 (fun v => [.inr (34, 0), av0, av0])) := by
  unfold c_X12_digest_78
  refine S_blk 2 (51, [.inr (34, 0), .inl (.int (x1 + (1 : Int32))), av0], [], h) rfl ?_
  refine S_nrm [.inr (34, 0), .inl (.int (x1 + (1 : Int32))), av0] rfl ?_
  exact hrc (x1 + (1 : Int32)) h
theorem sb_X12_digest_51  (rc : Int32 → AH → Option (Unit × AH)) (x1 : Int32) (hrc : ∀ (x1 : Int32) (h : AH), Sim PP (5) k_X12_digest (51, [.inr (34, 0), .inl (.int x1), av0], [], h) (rc x1 h) (fE PP (5) k_X12_digest 80 (fun v => [.inr (34, 0), av0, av0])))  (h : AH) : Sim PP (5) k_X12_digest (51, [.inr (34, 0), .inl (.int x1), av0], [], h) (b_X12_digest_51 rc x1 h) (fE PP (5) k_X12_digest 80 (fun v => [.inr (34, 0), av0, av0])) := by
  unfold b_X12_digest_51
  refine S_br 3 80 54 [.inr (34, 0), .inl (.int x1), av0] [] h rfl (fun _ => ?_) (fun _ => ?_)
  · exact S_ex () (fun v => [.inr (34, 0), av0, av0]) rfl
  · refine S_grd 5 (59, [.inr (34, 0), .inl (.int x1), av0], [.inl (.int (h.1 39 0 x1.toNatClampNeg)), .inr (34, 0)], h) rfl (fun _ => ?_)
    refine S_dv 1 60 268 0 [.inr (34, 0), .inl (.int x1), av0] [.inl (.long ((h.1 39 0 x1.toNatClampNeg).toInt64)), .inr (34, 0)] [.inr (34, 0), .inl (.long ((h.1 39 0 x1.toNatClampNeg).toInt64)), av0] [.inr (34, 0), .inl (.int x1), av0] [] h rfl rfl pp_268 (by decide) (s_X12_mix ((h.1 39 0 x1.toNatClampNeg).toInt64) h) (fun _ h2 => ?_)
    refine S_blk 2 (63, [.inr (34, 0), .inl (.int x1), .inl (.int (0 : Int32))], [], h2) rfl ?_
    refine S_nrm [.inr (34, 0), .inl (.int x1), .inl (.int (0 : Int32))] rfl ?_
    refine S_lp 78 (fun v => [.inr (34, 0), .inl (.int x1), av0]) (sl_X12_digest_63 x1 FU (0 : Int32) h2) (fun v h => ?_)
    exact sc_X12_digest_78 rc x1 hrc h
theorem sl_X12_digest_51     : ∀ (F : Nat) (x1 : Int32) (h : AH), Sim PP (5) k_X12_digest (51, [.inr (34, 0), .inl (.int x1), av0], [], h) (l_X12_digest_51 F x1 h) (fE PP (5) k_X12_digest 80 (fun v => [.inr (34, 0), av0, av0])) := by
  intro F
  induction F with
  | zero => intro x1 h; exact S_none
  | succ F ih => intro x1 h; exact sb_X12_digest_51 (l_X12_digest_51 F) x1 ih h
theorem sc_X12_digest_80      (h : AH) : Sim PP (5) k_X12_digest (80, [.inr (34, 0), av0, av0], [], h) (c_X12_digest_80   h) fL := by
  unfold c_X12_digest_80
  exact S_rl 2 (82, [.inr (34, 0), av0, av0], [.inl (.long (h.2 34 0 39))], h) rfl rfl
theorem sc_X12_digest_49      (h : AH) : Sim PP (5) k_X12_digest (49, [.inr (34, 0), av0, av0], [], h) (c_X12_digest_49   h) fL := by
  unfold c_X12_digest_49
  refine S_blk 2 (51, [.inr (34, 0), .inl (.int (0 : Int32)), av0], [], h) rfl ?_
  refine S_nrm [.inr (34, 0), .inl (.int (0 : Int32)), av0] rfl ?_
  refine S_lp 80 (fun v => [.inr (34, 0), av0, av0]) (sl_X12_digest_51  FU (0 : Int32) h) (fun v h => ?_)
  exact sc_X12_digest_80 h
theorem sc_X12_digest_16      (h : AH) : Sim PP (5) k_X12_digest (16, [.inr (34, 0), av0, av0], [], h) (c_X12_digest_16   h) fL := by
  unfold c_X12_digest_16
  refine S_dv 1 17 269 4 [.inr (34, 0), av0, av0] [.inr (34, 0)] [.inr (34, 0), av0, av0] [.inr (34, 0), av0, av0] [] h rfl rfl pp_269 (by decide) (s_X12_mixRoom  h) (fun _ h2 => ?_)
  refine S_blk 2 (20, [.inr (34, 0), .inl (.int (0 : Int32)), av0], [], h2) rfl ?_
  refine S_nrm [.inr (34, 0), .inl (.int (0 : Int32)), av0] rfl ?_
  refine S_lp 49 (fun v => [.inr (34, 0), av0, av0]) (sl_X12_digest_20  FU (0 : Int32) h2) (fun v h => ?_)
  exact sc_X12_digest_49 h
theorem s_X12_digest  (h : AH) : Sim PP (5) k_X12_digest (0, [.inr (34, 0), av0, av0], [], h) (f_X12_digest  h) fL := by
  unfold f_X12_digest
  refine S_blk 5 (5, [.inr (34, 0), .inl (.int (0 : Int32)), av0], [], (hsL h 34 0 39 (17 : Int64))) rfl ?_
  refine S_nrm [.inr (34, 0), .inl (.int (0 : Int32)), av0] rfl ?_
  refine S_lp 16 (fun v => [.inr (34, 0), av0, av0]) (sl_X12_digest_5  FU (0 : Int32) (hsL h 34 0 39 (17 : Int64))) (fun v h => ?_)
  exact sc_X12_digest_16 h
