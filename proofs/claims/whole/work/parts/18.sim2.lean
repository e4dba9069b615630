theorem sb_X0_reachOf_17  (rc : Int32 → Int32 → Int32 → Int32 → AH → Option (Int32 × AH)) (x2 : Int32) (x4 : Int32) (x5 : Int32) (x6 : Int32) (hrc : ∀ (x2 : Int32) (x6 : Int32) (h : AH), Sim PP (2) k_X0_reachOf (17, [.inr (18, 0), av0, .inl (.int x2), av0, .inl (.int x4), .inl (.int x5), .inl (.int x6)], [], h) (rc x2 x4 x5 x6 h) (fE PP (2) k_X0_reachOf 46 (fun v => [.inr (18, 0), av0, .inl (.int v), av0, .inl (.int x4), .inl (.int x5), av0])))  (h : AH) : Sim PP (2) k_X0_reachOf (17, [.inr (18, 0), av0, .inl (.int x2), av0, .inl (.int x4), .inl (.int x5), .inl (.int x6)], [], h) (b_X0_reachOf_17 rc x2 x4 x5 x6 h) (fE PP (2) k_X0_reachOf 46 (fun v => [.inr (18, 0), av0, .inl (.int v), av0, .inl (.int x4), .inl (.int x5), av0])) := by
  unfold b_X0_reachOf_17
  refine S_br 5 46 22 [.inr (18, 0), av0, .inl (.int x2), av0, .inl (.int x4), .inl (.int x5), .inl (.int x6)] [] h rfl (fun _ => ?_) (fun _ => ?_)
  · exact S_ex x2 (fun v => [.inr (18, 0), av0, .inl (.int v), av0, .inl (.int x4), .inl (.int x5), av0]) rfl
  · refine S_grd 7 (29, [.inr (18, 0), av0, .inl (.int x2), av0, .inl (.int x4), .inl (.int x5), .inl (.int x6)], [.inl (.int (h.1 15 0 x6.toNatClampNeg)), .inl (.int x2), .inl (.int x2)], h) rfl (fun _ => ?_)
    refine S_di 0 29 138 0 [.inr (18, 0), av0, .inl (.int x2), av0, .inl (.int x4), .inl (.int x5), .inl (.int x6)] [.inl (.int (h.1 15 0 x6.toNatClampNeg)), .inl (.int x2), .inl (.int x2)] [.inl (.int x2), .inl (.int (h.1 15 0 x6.toNatClampNeg))] [.inr (18, 0), av0, .inl (.int x2), av0, .inl (.int x4), .inl (.int x5), .inl (.int x6)] [.inl (.int x2)] h rfl rfl pp_138 (by decide) (s_X11_has x2 (h.1 15 0 x6.toNatClampNeg) h) (fun y1 h2 => ?_)
    refine S_br 1 41 31 [.inr (18, 0), av0, .inl (.int x2), av0, .inl (.int x4), .inl (.int x5), .inl (.int x6)] [.inl (.int x2)] h2 rfl (fun _ => ?_) (fun _ => ?_)
    · refine S_blk 5 (17, [.inr (18, 0), av0, .inl (.int (x2 ||| (0 : Int32))), av0, .inl (.int x4), .inl (.int x5), .inl (.int (x6 + (1 : Int32)))], [], h2) rfl ?_
      refine S_nrm [.inr (18, 0), av0, .inl (.int (x2 ||| (0 : Int32))), av0, .inl (.int x4), .inl (.int x5), .inl (.int (x6 + (1 : Int32)))] rfl ?_
      exact hrc (x2 ||| (0 : Int32)) (x6 + (1 : Int32)) h2
    · refine S_di 2 33 0 1 [.inr (18, 0), av0, .inl (.int x2), av0, .inl (.int x4), .inl (.int x5), .inl (.int x6)] [.inl (.int x6), .inr (18, 0), .inl (.int x2)] [.inr (18, 0), .inl (.int x6)] [.inr (18, 0), av0, .inl (.int x2), av0, .inl (.int x4), .inl (.int x5), .inl (.int x6)] [.inl (.int x2)] h2 rfl rfl pp_0 (by decide) (s_X0_isUsable x6 h2) (fun y3 h4 => ?_)
      refine S_br 1 41 35 [.inr (18, 0), av0, .inl (.int x2), av0, .inl (.int x4), .inl (.int x5), .inl (.int x6)] [.inl (.int x2)] h4 rfl (fun _ => ?_) (fun _ => ?_)
      · refine S_blk 5 (17, [.inr (18, 0), av0, .inl (.int (x2 ||| (0 : Int32))), av0, .inl (.int x4), .inl (.int x5), .inl (.int (x6 + (1 : Int32)))], [], h4) rfl ?_
        refine S_nrm [.inr (18, 0), av0, .inl (.int (x2 ||| (0 : Int32))), av0, .inl (.int x4), .inl (.int x5), .inl (.int (x6 + (1 : Int32)))] rfl ?_
        exact hrc (x2 ||| (0 : Int32)) (x6 + (1 : Int32)) h4
      · refine S_grd 5 (40, [.inr (18, 0), av0, .inl (.int x2), av0, .inl (.int x4), .inl (.int x5), .inl (.int x6)], [.inl (.int (h4.1 16 0 x6.toNatClampNeg)), .inl (.int x2)], h4) rfl (fun _ => ?_)
        refine S_blk 5 (17, [.inr (18, 0), av0, .inl (.int (x2 ||| (h4.1 16 0 x6.toNatClampNeg))), av0, .inl (.int x4), .inl (.int x5), .inl (.int (x6 + (1 : Int32)))], [], h4) rfl ?_
        refine S_nrm [.inr (18, 0), av0, .inl (.int (x2 ||| (h4.1 16 0 x6.toNatClampNeg))), av0, .inl (.int x4), .inl (.int x5), .inl (.int (x6 + (1 : Int32)))] rfl ?_
        exact hrc (x2 ||| (h4.1 16 0 x6.toNatClampNeg)) (x6 + (1 : Int32)) h4
theorem sl_X0_reachOf_17    (x4 : Int32) (x5 : Int32) : ∀ (F : Nat) (x2 : Int32) (x6 : Int32) (h : AH), Sim PP (2) k_X0_reachOf (17, [.inr (18, 0), av0, .inl (.int x2), av0, .inl (.int x4), .inl (.int x5), .inl (.int x6)], [], h) (l_X0_reachOf_17 F x2 x4 x5 x6 h) (fE PP (2) k_X0_reachOf 46 (fun v => [.inr (18, 0), av0, .inl (.int v), av0, .inl (.int x4), .inl (.int x5), av0])) := by
  intro F
  induction F with
  | zero => intro x2 x6 h; exact S_none
  | succ F ih => intro x2 x6 h; exact sb_X0_reachOf_17 (l_X0_reachOf_17 F) x2 x4 x5 x6 ih h
theorem sc_X0_reachOf_46  (rc : Int32 → Int32 → Int32 → AH → Option (Int32 × AH))  (x2 : Int32) (x4 : Int32) (x5 : Int32) (hrc : ∀ (x2 : Int32) (x3 : Int32) (x4 : Int32) (h : AH), Sim PP (2) k_X0_reachOf (8, [.inr (18, 0), av0, .inl (.int x2), .inl (.int x3), .inl (.int x4), av0, av0], [], h) (rc x2 x3 x4 h) (fE PP (2) k_X0_reachOf 55 (fun v => [av0, av0, .inl (.int v), av0, av0, av0, av0]))) (h : AH) : Sim PP (2) k_X0_reachOf (46, [.inr (18, 0), av0, .inl (.int x2), av0, .inl (.int x4), .inl (.int x5), av0], [], h) (c_X0_reachOf_46 rc x2 x4 x5 h) (fE PP (2) k_X0_reachOf 55 (fun v => [av0, av0, .inl (.int v), av0, av0, av0, av0])) := by
  unfold c_X0_reachOf_46
  refine S_br 3 51 49 [.inr (18, 0), av0, .inl (.int x2), av0, .inl (.int x4), .inl (.int x5), av0] [] h rfl (fun _ => ?_) (fun _ => ?_)
  · refine S_blk 4 (8, [.inr (18, 0), av0, .inl (.int x2), .inl (.int (0 : Int32)), .inl (.int (x4 + (1 : Int32))), .inl (.int x5), av0], [], h) rfl ?_
    refine S_nrm [.inr (18, 0), av0, .inl (.int x2), .inl (.int (0 : Int32)), .inl (.int (x4 + (1 : Int32))), av0, av0] rfl ?_
    exact hrc x2 (0 : Int32) (x4 + (1 : Int32)) h
  · refine S_blk 5 (8, [.inr (18, 0), av0, .inl (.int x2), .inl (.int (1 : Int32)), .inl (.int (x4 + (1 : Int32))), .inl (.int x5), av0], [], h) rfl ?_
    refine S_nrm [.inr (18, 0), av0, .inl (.int x2), .inl (.int (1 : Int32)), .inl (.int (x4 + (1 : Int32))), av0, av0] rfl ?_
    exact hrc x2 (1 : Int32) (x4 + (1 : Int32)) h
theorem sb_X0_reachOf_8  (rc : Int32 → Int32 → Int32 → AH → Option (Int32 × AH)) (x2 : Int32) (x3 : Int32) (x4 : Int32) (hrc : ∀ (x2 : Int32) (x3 : Int32) (x4 : Int32) (h : AH), Sim PP (2) k_X0_reachOf (8, [.inr (18, 0), av0, .inl (.int x2), .inl (.int x3), .inl (.int x4), av0, av0], [], h) (rc x2 x3 x4 h) (fE PP (2) k_X0_reachOf 55 (fun v => [av0, av0, .inl (.int v), av0, av0, av0, av0])))  (h : AH) : Sim PP (2) k_X0_reachOf (8, [.inr (18, 0), av0, .inl (.int x2), .inl (.int x3), .inl (.int x4), av0, av0], [], h) (b_X0_reachOf_8 rc x2 x3 x4 h) (fE PP (2) k_X0_reachOf 55 (fun v => [av0, av0, .inl (.int v), av0, av0, av0, av0])) := by
  unfold b_X0_reachOf_8
  refine S_br 2 55 10 [.inr (18, 0), av0, .inl (.int x2), .inl (.int x3), .inl (.int x4), av0, av0] [] h rfl (fun _ => ?_) (fun _ => ?_)
  · exact S_ex x2 (fun v => [av0, av0, .inl (.int v), av0, av0, av0, av0]) rfl
  · refine S_br 3 55 13 [.inr (18, 0), av0, .inl (.int x2), .inl (.int x3), .inl (.int x4), av0, av0] [] h rfl (fun _ => ?_) (fun _ => ?_)
    · exact S_ex x2 (fun v => [av0, av0, .inl (.int v), av0, av0, av0, av0]) rfl
    · refine S_blk 4 (17, [.inr (18, 0), av0, .inl (.int x2), .inl (.int x3), .inl (.int x4), .inl (.int x2), .inl (.int (0 : Int32))], [], h) rfl ?_
      refine S_nrm [.inr (18, 0), av0, .inl (.int x2), av0, .inl (.int x4), .inl (.int x2), .inl (.int (0 : Int32))] rfl ?_
      refine S_lp 46 (fun v => [.inr (18, 0), av0, .inl (.int v), av0, .inl (.int x4), .inl (.int x2), av0]) (sl_X0_reachOf_17 x4 x2 FU x2 (0 : Int32) h) (fun v h => ?_)
      exact sc_X0_reachOf_46 rc v x4 x2 hrc h
theorem sl_X0_reachOf_8     : ∀ (F : Nat) (x2 : Int32) (x3 : Int32) (x4 : Int32) (h : AH), Sim PP (2) k_X0_reachOf (8, [.inr (18, 0), av0, .inl (.int x2), .inl (.int x3), .inl (.int x4), av0, av0], [], h) (l_X0_reachOf_8 F x2 x3 x4 h) (fE PP (2) k_X0_reachOf 55 (fun v => [av0, av0, .inl (.int v), av0, av0, av0, av0])) := by
  intro F
  induction F with
  | zero => intro x2 x3 x4 h; exact S_none
  | succ F ih => intro x2 x3 x4 h; exact sb_X0_reachOf_8 (l_X0_reachOf_8 F) x2 x3 x4 ih h
theorem sc_X0_reachOf_55    (x2 : Int32)  (h : AH) : Sim PP (2) k_X0_reachOf (55, [av0, av0, .inl (.int x2), av0, av0, av0, av0], [], h) (c_X0_reachOf_55  x2 h) fI := by
  unfold c_X0_reachOf_55
  exact S_ri 1 (56, [av0, av0, .inl (.int x2), av0, av0, av0, av0], [.inl (.int x2)], h) rfl rfl
theorem s_X0_reachOf (x1 : Int32) (h : AH) : Sim PP (2) k_X0_reachOf (0, [.inr (18, 0), .inl (.int x1), av0, av0, av0, av0, av0], [], h) (f_X0_reachOf x1 h) fI := by
  unfold f_X0_reachOf
  refine S_blk 8 (8, [.inr (18, 0), .inl (.int x1), .inl (.int ((1 : Int32) <<< (x1 &&& 31))), .inl (.int (1 : Int32)), .inl (.int (0 : Int32)), av0, av0], [], h) rfl ?_
  refine S_nrm [.inr (18, 0), av0, .inl (.int ((1 : Int32) <<< (x1 &&& 31))), .inl (.int (1 : Int32)), .inl (.int (0 : Int32)), av0, av0] rfl ?_
  refine S_lp 55 (fun v => [av0, av0, .inl (.int v), av0, av0, av0, av0]) (sl_X0_reachOf_8  FU ((1 : Int32) <<< (x1 &&& 31)) (1 : Int32) (0 : Int32) h) (fun v h => ?_)
  exact sc_X0_reachOf_55 v h
theorem sb_X10_goFurther_35 (D : Nat) (R : Int32 → Int32 → Int32 → AH → Option (Unit × AH)) (rc : Int32 → Int32 → Int32 → Int32 → AH → Option (Unit × AH)) (x1 : Int32) (x2 : Int32) (x3 : Int32) (x4 : Int32) (hR : ∀ (x1 : Int32) (x2 : Int32) (x3 : Int32) (h : AH), Sim PP (D + 1) k_X10_goFurther (0, [.inr (19, 0), .inl (.int x1), .inl (.int x2), .inl (.int x3), av0], [], h) (R x1 x2 x3 h) fV) (hrc : ∀ (x4 : Int32) (h : AH), Sim PP (D + 1 + 1) k_X10_goFurther (35, [.inr (19, 0), .inl (.int x1), .inl (.int x2), .inl (.int x3), .inl (.int x4)], [], h) (rc x1 x2 x3 x4 h) (fE PP (D + 1 + 1) k_X10_goFurther 64 (fun v => [av0, av0, av0, av0, av0])))  (h : AH) : Sim PP (D + 1 + 1) k_X10_goFurther (35, [.inr (19, 0), .inl (.int x1), .inl (.int x2), .inl (.int x3), .inl (.int x4)], [], h) (b_X10_goFurther_35 R rc x1 x2 x3 x4 h) (fE PP (D + 1 + 1) k_X10_goFurther 64 (fun v => [av0, av0, av0, av0, av0])) := by
  unfold b_X10_goFurther_35
  refine S_br 5 64 40 [.inr (19, 0), .inl (.int x1), .inl (.int x2), .inl (.int x3), .inl (.int x4)] [] h rfl (fun _ => ?_) (fun _ => ?_)
  · exact S_ex () (fun v => [av0, av0, av0, av0, av0]) rfl
  · refine S_grd 4 (44, [.inr (19, 0), .inl (.int x1), .inl (.int x2), .inl (.int x3), .inl (.int x4)], [.inl (.int (h.1 22 0 x1.toNatClampNeg))], h) rfl (fun _ => ?_)
    refine S_di 3 47 138 0 [.inr (19, 0), .inl (.int x1), .inl (.int x2), .inl (.int x3), .inl (.int x4)] [.inl (.int x4), .inl (.int ((h.1 22 0 x1.toNatClampNeg) &&& x3))] [.inl (.int ((h.1 22 0 x1.toNatClampNeg) &&& x3)), .inl (.int x4)] [.inr (19, 0), .inl (.int x1), .inl (.int x2), .inl (.int x3), .inl (.int x4)] [] h rfl rfl pp_138 (by omega) (s_X11_has ((h.1 22 0 x1.toNatClampNeg) &&& x3) x4 h) (fun y1 h2 => ?_)
    refine S_br 1 62 49 [.inr (19, 0), .inl (.int x1), .inl (.int x2), .inl (.int x3), .inl (.int x4)] [] h2 rfl (fun _ => ?_) (fun _ => ?_)
    · refine S_blk 2 (35, [.inr (19, 0), .inl (.int x1), .inl (.int x2), .inl (.int x3), .inl (.int (x4 + (1 : Int32)))], [], h2) rfl ?_
      refine S_nrm [.inr (19, 0), .inl (.int x1), .inl (.int x2), .inl (.int x3), .inl (.int (x4 + (1 : Int32)))] rfl ?_
      exact hrc (x4 + (1 : Int32)) h2
    · refine S_dv 12 61 77 (D + 1) [.inr (19, 0), .inl (.int x1), .inl (.int x2), .inl (.int x3), .inl (.int x4)] [.inl (.int (x3 &&& (((1 : Int32) <<< (x4 &&& 31)) ^^^ (-1 : Int32)))), .inl (.int (x2 + (1 : Int32))), .inl (.int x4), .inr (19, 0)] [.inr (19, 0), .inl (.int x4), .inl (.int (x2 + (1 : Int32))), .inl (.int (x3 &&& (((1 : Int32) <<< (x4 &&& 31)) ^^^ (-1 : Int32)))), av0] [.inr (19, 0), .inl (.int x1), .inl (.int x2), .inl (.int x3), .inl (.int x4)] [] h2 rfl rfl pp_77 (by omega) (hR x4 (x2 + (1 : Int32)) (x3 &&& (((1 : Int32) <<< (x4 &&& 31)) ^^^ (-1 : Int32))) h2) (fun _ h4 => ?_)
      refine S_blk 2 (35, [.inr (19, 0), .inl (.int x1), .inl (.int x2), .inl (.int x3), .inl (.int (x4 + (1 : Int32)))], [], h4) rfl ?_
      refine S_nrm [.inr (19, 0), .inl (.int x1), .inl (.int x2), .inl (.int x3), .inl (.int (x4 + (1 : Int32)))] rfl ?_
      exact hrc (x4 + (1 : Int32)) h4
theorem sl_X10_goFurther_35 (D : Nat) (R : Int32 → Int32 → Int32 → AH → Option (Unit × AH)) (hR : ∀ (x1 : Int32) (x2 : Int32) (x3 : Int32) (h : AH), Sim PP (D + 1) k_X10_goFurther (0, [.inr (19, 0), .inl (.int x1), .inl (.int x2), .inl (.int x3), av0], [], h) (R x1 x2 x3 h) fV) (x1 : Int32) (x2 : Int32) (x3 : Int32) : ∀ (F : Nat) (x4 : Int32) (h : AH), Sim PP (D + 1 + 1) k_X10_goFurther (35, [.inr (19, 0), .inl (.int x1), .inl (.int x2), .inl (.int x3), .inl (.int x4)], [], h) (l_X10_goFurther_35 R F x1 x2 x3 x4 h) (fE PP (D + 1 + 1) k_X10_goFurther 64 (fun v => [av0, av0, av0, av0, av0])) := by
  intro F
  induction F with
  | zero => intro x4 h; exact S_none
  | succ F ih => intro x4 h; exact sb_X10_goFurther_35 D R (l_X10_goFurther_35 R F) x1 x2 x3 x4 hR ih h
theorem sc_X10_goFurther_64 (D : Nat) (R : Int32 → Int32 → Int32 → AH → Option (Unit × AH))   (hR : ∀ (x1 : Int32) (x2 : Int32) (x3 : Int32) (h : AH), Sim PP (D + 1) k_X10_goFurther (0, [.inr (19, 0), .inl (.int x1), .inl (.int x2), .inl (.int x3), av0], [], h) (R x1 x2 x3 h) fV) (h : AH) : Sim PP (D + 1 + 1) k_X10_goFurther (64, [av0, av0, av0, av0, av0], [], h) (c_X10_goFurther_64 R  h) fV := by
  unfold c_X10_goFurther_64
  exact S_rv 0 (64, [av0, av0, av0, av0, av0], [], h) rfl rfl
theorem sg_X10_goFurther (D : Nat) (R : Int32 → Int32 → Int32 → AH → Option (Unit × AH)) (hR : ∀ (x1 : Int32) (x2 : Int32) (x3 : Int32) (h : AH), Sim PP (D + 1) k_X10_goFurther (0, [.inr (19, 0), .inl (.int x1), .inl (.int x2), .inl (.int x3), av0], [], h) (R x1 x2 x3 h) fV) (x1 : Int32) (x2 : Int32) (x3 : Int32) (h : AH) : Sim PP (D + 1 + 1) k_X10_goFurther (0, [.inr (19, 0), .inl (.int x1), .inl (.int x2), .inl (.int x3), av0], [], h) (g_X10_goFurther R x1 x2 x3 h) fV := by
  unfold g_X10_goFurther
  refine S_br 3 10 3 [.inr (19, 0), .inl (.int x1), .inl (.int x2), .inl (.int x3), av0] [] h rfl (fun _ => ?_) (fun _ => ?_)
  · exact S_rv 0 (10, [.inr (19, 0), .inl (.int x1), .inl (.int x2), .inl (.int x3), av0], [], h) rfl rfl
  · refine S_di 2 5 271 0 [.inr (19, 0), .inl (.int x1), .inl (.int x2), .inl (.int x3), av0] [.inl (.int x3), .inl (.int x2)] [.inl (.int x3)] [.inr (19, 0), .inl (.int x1), .inl (.int x2), .inl (.int x3), av0] [.inl (.int x2)] h rfl rfl pp_271 (by omega) (s_J6_bitCount_0f7a4 x3 h) (fun y1 h2 => ?_)
    refine S_br 4 11 10 [.inr (19, 0), .inl (.int x1), .inl (.int x2), .inl (.int x3), av0] [] h2 rfl (fun _ => ?_) (fun _ => ?_)
    · refine S_grd 5 (16, [.inr (19, 0), .inl (.int x1), .inl (.int x2), .inl (.int x3), av0], [], (hsI h2 23 0 x2.toNatClampNeg x1)) rfl (fun _ => ?_)
      refine S_br 4 33 20 [.inr (19, 0), .inl (.int x1), .inl (.int x2), .inl (.int x3), av0] [] (hsI h2 23 0 x2.toNatClampNeg x1) rfl (fun _ => ?_) (fun _ => ?_)
      · refine S_blk 2 (35, [.inr (19, 0), .inl (.int x1), .inl (.int x2), .inl (.int x3), .inl (.int (0 : Int32))], [], (hsI h2 23 0 x2.toNatClampNeg x1)) rfl ?_
        refine S_nrm [.inr (19, 0), .inl (.int x1), .inl (.int x2), .inl (.int x3), .inl (.int (0 : Int32))] rfl ?_
        refine S_lp 64 (fun v => [av0, av0, av0, av0, av0]) (sl_X10_goFurther_35 D R hR x1 x2 x3 FU (0 : Int32) (hsI h2 23 0 x2.toNatClampNeg x1)) (fun v h => ?_)
        exact sc_X10_goFurther_64 D R hR h
      · refine S_grd 13 (33, [.inr (19, 0), .inl (.int x1), .inl (.int x2), .inl (.int x3), av0], [], (hcp (hsI (hsI h2 23 0 x2.toNatClampNeg x1) 19 0 7 x2) 23 0 20 0 (0 : Int32).toNatClampNeg (0 : Int32).toNatClampNeg (x2 + (1 : Int32)).toNatClampNeg)) rfl (fun _ => ?_)
        refine S_blk 2 (35, [.inr (19, 0), .inl (.int x1), .inl (.int x2), .inl (.int x3), .inl (.int (0 : Int32))], [], (hcp (hsI (hsI h2 23 0 x2.toNatClampNeg x1) 19 0 7 x2) 23 0 20 0 (0 : Int32).toNatClampNeg (0 : Int32).toNatClampNeg (x2 + (1 : Int32)).toNatClampNeg)) rfl ?_
        refine S_nrm [.inr (19, 0), .inl (.int x1), .inl (.int x2), .inl (.int x3), .inl (.int (0 : Int32))] rfl ?_
        refine S_lp 64 (fun v => [av0, av0, av0, av0, av0]) (sl_X10_goFurther_35 D R hR x1 x2 x3 FU (0 : Int32) (hcp (hsI (hsI h2 23 0 x2.toNatClampNeg x1) 19 0 7 x2) 23 0 20 0 (0 : Int32).toNatClampNeg (0 : Int32).toNatClampNeg (x2 + (1 : Int32)).toNatClampNeg)) (fun v h => ?_)
        exact sc_X10_goFurther_64 D R hR h
    · exact S_rv 0 (10, [.inr (19, 0), .inl (.int x1), .inl (.int x2), .inl (.int x3), av0], [], h2) rfl rfl
theorem s_X10_goFurther : ∀ (D : Nat) (x1 : Int32) (x2 : Int32) (x3 : Int32) (h : AH), Sim PP (D + 1) k_X10_goFurther (0, [.inr (19, 0), .inl (.int x1), .inl (.int x2), .inl (.int x3), av0], [], h) (f_X10_goFurther D x1 x2 x3 h) fV := by
  intro D
  induction D with
  | zero => intro x1 x2 x3 h; exact S_none
  | succ D ih => intro x1 x2 x3 h; exact sg_X10_goFurther D _ ih x1 x2 x3 h
theorem sb_X10_longestFrom_2  (rc : Int32 → Int32 → AH → Option (Unit × AH)) (x1 : Int32) (x2 : Int32) (hrc : ∀ (x2 : Int32) (h : AH), Sim PP (14) k_X10_longestFrom (2, [.inr (19, 0), .inl (.int x1), .inl (.int x2)], [], h) (rc x1 x2 h) (fE PP (14) k_X10_longestFrom 17 (fun v => [.inr (19, 0), .inl (.int x1), av0])))  (h : AH) : Sim PP (14) k_X10_longestFrom (2, [.inr (19, 0), .inl (.int x1), .inl (.int x2)], [], h) (b_X10_longestFrom_2 rc x1 x2 h) (fE PP (14) k_X10_longestFrom 17 (fun v => [.inr (19, 0), .inl (.int x1), av0])) := by
  unfold b_X10_longestFrom_2
  refine S_br 5 17 7 [.inr (19, 0), .inl (.int x1), .inl (.int x2)] [] h rfl (fun _ => ?_) (fun _ => ?_)
  · exact S_ex () (fun v => [.inr (19, 0), .inl (.int x1), av0]) rfl
  · refine S_di 6 13 10 2 [.inr (19, 0), .inl (.int x1), .inl (.int x2)] [.inl (.int x2), .inr (18, 0), .inl (.int x2), .inr (22, 0)] [.inr (18, 0), .inl (.int x2), av0, av0] [.inr (19, 0), .inl (.int x1), .inl (.int x2)] [.inl (.int x2), .inr (22, 0)] h rfl rfl pp_10 (by decide) (s_X0_nextOf x2 h) (fun y1 h2 => ?_)
    refine S_grd 1 (15, [.inr (19, 0), .inl (.int x1), .inl (.int x2)], [], (hsI h2 22 0 x2.toNatClampNeg y1)) rfl (fun _ => ?_)
    refine S_blk 2 (2, [.inr (19, 0), .inl (.int x1), .inl (.int (x2 + (1 : Int32)))], [], (hsI h2 22 0 x2.toNatClampNeg y1)) rfl ?_
    refine S_nrm [.inr (19, 0), .inl (.int x1), .inl (.int (x2 + (1 : Int32)))] rfl ?_
    exact hrc (x2 + (1 : Int32)) (hsI h2 22 0 x2.toNatClampNeg y1)
theorem sl_X10_longestFrom_2    (x1 : Int32) : ∀ (F : Nat) (x2 : Int32) (h : AH), Sim PP (14) k_X10_longestFrom (2, [.inr (19, 0), .inl (.int x1), .inl (.int x2)], [], h) (l_X10_longestFrom_2 F x1 x2 h) (fE PP (14) k_X10_longestFrom 17 (fun v => [.inr (19, 0), .inl (.int x1), av0])) := by
  intro F
  induction F with
  | zero => intro x2 h; exact S_none
  | succ F ih => intro x2 h; exact sb_X10_longestFrom_2 (l_X10_longestFrom_2 F) x1 x2 ih h
theorem sc_X10_longestFrom_17    (x1 : Int32)  (h : AH) : Sim PP (14) k_X10_longestFrom (17, [.inr (19, 0), .inl (.int x1), av0], [], h) (c_X10_longestFrom_17  x1 h) fI := by
  unfold c_X10_longestFrom_17
  refine S_di 9 26 11 2 [.inr (19, 0), .inl (.int x1), av0] [.inl (.int x1), .inr (18, 0), .inl (.int (0 : Int32)), .inl (.int x1), .inr (19, 0)] [.inr (18, 0), .inl (.int x1), av0, av0, av0, av0, av0] [.inr (19, 0), .inl (.int x1), av0] [.inl (.int (0 : Int32)), .inl (.int x1), .inr (19, 0)] (hsI h 19 0 7 (-1 : Int32)) rfl rfl pp_11 (by decide) (s_X0_reachOf x1 (hsI h 19 0 7 (-1 : Int32))) (fun y1 h2 => ?_)
  refine S_dv 6 33 77 13 [.inr (19, 0), .inl (.int x1), av0] [.inl (.int (y1 &&& (((1 : Int32) <<< (x1 &&& 31)) ^^^ (-1 : Int32)))), .inl (.int (0 : Int32)), .inl (.int x1), .inr (19, 0)] [.inr (19, 0), .inl (.int x1), .inl (.int (0 : Int32)), .inl (.int (y1 &&& (((1 : Int32) <<< (x1 &&& 31)) ^^^ (-1 : Int32)))), av0] [.inr (19, 0), .inl (.int x1), av0] [] h2 rfl rfl pp_77 (by decide) (s_X10_goFurther 12 x1 (0 : Int32) (y1 &&& (((1 : Int32) <<< (x1 &&& 31)) ^^^ (-1 : Int32))) h2) (fun _ h4 => ?_)
  exact S_ri 2 (36, [.inr (19, 0), .inl (.int x1), av0], [.inl (.int (h4.1 19 0 7))], h4) rfl rfl
theorem s_X10_longestFrom (x1 : Int32) (h : AH) : Sim PP (14) k_X10_longestFrom (0, [.inr (19, 0), .inl (.int x1), av0], [], h) (f_X10_longestFrom x1 h) fI := by
  unfold f_X10_longestFrom
  refine S_blk 2 (2, [.inr (19, 0), .inl (.int x1), .inl (.int (0 : Int32))], [], h) rfl ?_
  refine S_nrm [.inr (19, 0), .inl (.int x1), .inl (.int (0 : Int32))] rfl ?_
  refine S_lp 17 (fun v => [.inr (19, 0), .inl (.int x1), av0]) (sl_X10_longestFrom_2 x1 FU (0 : Int32) h) (fun v h => ?_)
  exact sc_X10_longestFrom_17 x1 h
theorem sb_X5_take_longTrail_5  (rc : Nat → Int32 → Int32 → AH → Option (Unit × AH)) (r0 : Nat) (x2 : Int32) (x3 : Int32) (hrc : ∀ (x3 : Int32) (h : AH), Sim PP (2) k_X5_take (5, [.inr (2, r0), .inr (20, 0), .inl (.int x2), .inl (.int x3)], [], h) (rc r0 x2 x3 h) (fE PP (2) k_X5_take 24 (fun v => [av0, av0, av0, av0])))  (h : AH) : Sim PP (2) k_X5_take (5, [.inr (2, r0), .inr (20, 0), .inl (.int x2), .inl (.int x3)], [], h) (b_X5_take_longTrail_5 rc r0 x2 x3 h) (fE PP (2) k_X5_take 24 (fun v => [av0, av0, av0, av0])) := by
  unfold b_X5_take_longTrail_5
  refine S_br 3 24 8 [.inr (2, r0), .inr (20, 0), .inl (.int x2), .inl (.int x3)] [] h rfl (fun _ => ?_) (fun _ => ?_)
  · exact S_ex () (fun v => [av0, av0, av0, av0]) rfl
  · refine S_br 3 24 11 [.inr (2, r0), .inr (20, 0), .inl (.int x2), .inl (.int x3)] [] h rfl (fun _ => ?_) (fun _ => ?_)
    · exact S_ex () (fun v => [av0, av0, av0, av0]) rfl
    · refine S_br 4 24 15 [.inr (2, r0), .inr (20, 0), .inl (.int x2), .inl (.int x3)] [] h rfl (fun _ => ?_) (fun _ => ?_)
      · exact S_ex () (fun v => [av0, av0, av0, av0]) rfl
      · refine S_grd 6 (21, [.inr (2, r0), .inr (20, 0), .inl (.int x2), .inl (.int x3)], [.inl (.int (h.1 20 0 x3.toNatClampNeg)), .inl (.int x3), .inr (3, r0)], h) rfl (fun _ => ?_)
        refine S_grd 1 (22, [.inr (2, r0), .inr (20, 0), .inl (.int x2), .inl (.int x3)], [], (hsI h 3 r0 x3.toNatClampNeg (h.1 20 0 x3.toNatClampNeg))) rfl (fun _ => ?_)
        refine S_blk 2 (5, [.inr (2, r0), .inr (20, 0), .inl (.int x2), .inl (.int (x3 + (1 : Int32)))], [], (hsI h 3 r0 x3.toNatClampNeg (h.1 20 0 x3.toNatClampNeg))) rfl ?_
        refine S_nrm [.inr (2, r0), .inr (20, 0), .inl (.int x2), .inl (.int (x3 + (1 : Int32)))] rfl ?_
        exact hrc (x3 + (1 : Int32)) (hsI h 3 r0 x3.toNatClampNeg (h.1 20 0 x3.toNatClampNeg))
theorem sl_X5_take_longTrail_5    (r0 : Nat) (x2 : Int32) : ∀ (F : Nat) (x3 : Int32) (h : AH), Sim PP (2) k_X5_take (5, [.inr (2, r0), .inr (20, 0), .inl (.int x2), .inl (.int x3)], [], h) (l_X5_take_longTrail_5 F r0 x2 x3 h) (fE PP (2) k_X5_take 24 (fun v => [av0, av0, av0, av0])) := by
  intro F
  induction F with
  | zero => intro x3 h; exact S_none
  | succ F ih => intro x3 h; exact sb_X5_take_longTrail_5 (l_X5_take_longTrail_5 F) r0 x2 x3 ih h
theorem sc_X5_take_longTrail_24      (h : AH) : Sim PP (2) k_X5_take (24, [av0, av0, av0, av0], [], h) (c_X5_take_longTrail_24   h) fV := by
  unfold c_X5_take_longTrail_24
  exact S_rv 0 (24, [av0, av0, av0, av0], [], h) rfl rfl
theorem s_X5_take_longTrail (r0 : Nat) (x2 : Int32) (h : AH) : Sim PP (2) k_X5_take (0, [.inr (2, r0), .inr (20, 0), .inl (.int x2), av0], [], h) (f_X5_take_longTrail r0 x2 h) fV := by
  unfold f_X5_take_longTrail
  refine S_dv 2 2 41 1 [.inr (2, r0), .inr (20, 0), .inl (.int x2), av0] [.inl (.int x2), .inr (2, r0)] [.inr (2, r0), .inl (.int x2)] [.inr (2, r0), .inr (20, 0), .inl (.int x2), av0] [] h rfl rfl pp_41 (by decide) (s_X5_renew r0 x2 h) (fun _ h2 => ?_)
  refine S_blk 2 (5, [.inr (2, r0), .inr (20, 0), .inl (.int x2), .inl (.int (0 : Int32))], [], h2) rfl ?_
  refine S_nrm [.inr (2, r0), .inr (20, 0), .inl (.int x2), .inl (.int (0 : Int32))] rfl ?_
  refine S_lp 24 (fun v => [av0, av0, av0, av0]) (sl_X5_take_longTrail_5 r0 x2 FU (0 : Int32) h2) (fun v h => ?_)
  exact sc_X5_take_longTrail_24 h
theorem s_X11_longest (x1 : Int32) (x2 : Int32) (h : AH) : Sim PP (15) k_X11_longest (0, [.inr (0, 0), .inl (.int x1), .inl (.int x2), av0], [], h) (f_X11_longest x1 x2 h) fI := by
  unfold f_X11_longest
  refine S_di 2 2 136 0 [.inr (0, 0), .inl (.int x1), .inl (.int x2), av0] [.inl (.int x1), .inr (0, 0)] [.inr (0, 0), .inl (.int x1)] [.inr (0, 0), .inl (.int x1), .inl (.int x2), av0] [] h rfl rfl pp_136 (by decide) (s_X11_isClaim x1 h) (fun y1 h2 => ?_)
  refine S_br 1 7 4 [.inr (0, 0), .inl (.int x1), .inl (.int x2), av0] [] h2 rfl (fun _ => ?_) (fun _ => ?_)
  · exact S_ri 1 (8, [.inr (0, 0), .inl (.int x1), .inl (.int x2), av0], [.inl (.int (-1 : Int32))], h2) rfl rfl
  · refine S_di 1 5 132 0 [.inr (0, 0), .inl (.int x1), .inl (.int x2), av0] [.inl (.int x2)] [.inl (.int x2)] [.inr (0, 0), .inl (.int x1), .inl (.int x2), av0] [] h2 rfl rfl pp_132 (by decide) (s_X11_isRow x2 h2) (fun y3 h4 => ?_)
    refine S_br 1 7 9 [.inr (0, 0), .inl (.int x1), .inl (.int x2), av0] [] h4 rfl (fun _ => ?_) (fun _ => ?_)
    · exact S_ri 1 (8, [.inr (0, 0), .inl (.int x1), .inl (.int x2), av0], [.inl (.int (-1 : Int32))], h4) rfl rfl
    · refine S_di 3 12 76 14 [.inr (0, 0), .inl (.int x1), .inl (.int x2), av0] [.inl (.int x1), .inr (19, 0)] [.inr (19, 0), .inl (.int x1), av0] [.inr (0, 0), .inl (.int x1), .inl (.int x2), av0] [] h4 rfl rfl pp_76 (by decide) (s_X10_longestFrom x1 h4) (fun y5 h6 => ?_)
      refine S_grd 5 (18, [.inr (0, 0), .inl (.int x1), .inl (.int x2), .inl (.int y5)], [.inr (2, (x2.toNatClampNeg))], h6) rfl (fun _ => ?_)
      refine S_dv 6 24 42 2 [.inr (0, 0), .inl (.int x1), .inl (.int x2), .inl (.int y5)] [.inl (.int (y5 + (1 : Int32))), .inr (20, 0), .inr (2, (x2.toNatClampNeg))] [.inr (2, (x2.toNatClampNeg)), .inr (20, 0), .inl (.int (y5 + (1 : Int32))), av0] [.inr (0, 0), .inl (.int x1), .inl (.int x2), .inl (.int y5)] [] h6 rfl rfl pp_42 (by decide) (s_X5_take_longTrail (x2.toNatClampNeg) (y5 + (1 : Int32)) h6) (fun _ h8 => ?_)
      exact S_ri 1 (26, [.inr (0, 0), .inl (.int x1), .inl (.int x2), .inl (.int y5)], [.inl (.int y5)], h8) rfl rfl
theorem sb_X12_nextSet_4  (rc : Int32 → Int32 → Int32 → AH → Option (Int32 × AH)) (x1 : Int32) (x2 : Int32) (x3 : Int32) (hrc : ∀ (x2 : Int32) (x3 : Int32) (h : AH), Sim PP (1) k_X12_nextSet (4, [.inr (34, 0), .inl (.int x1), .inl (.int x2), .inl (.int x3)], [], h) (rc x1 x2 x3 h) (fE PP (1) k_X12_nextSet 29 (fun v => [av0, av0, .inl (.int v), av0])))  (h : AH) : Sim PP (1) k_X12_nextSet (4, [.inr (34, 0), .inl (.int x1), .inl (.int x2), .inl (.int x3)], [], h) (b_X12_nextSet_4 rc x1 x2 x3 h) (fE PP (1) k_X12_nextSet 29 (fun v => [av0, av0, .inl (.int v), av0])) := by
  unfold b_X12_nextSet_4
  refine S_br 4 29 8 [.inr (34, 0), .inl (.int x1), .inl (.int x2), .inl (.int x3)] [] h rfl (fun _ => ?_) (fun _ => ?_)
  · exact S_ex x2 (fun v => [av0, av0, .inl (.int v), av0]) rfl
  · refine S_grd 5 (13, [.inr (34, 0), .inl (.int x1), .inl (.int x2), .inl (.int x3)], [.inl (.int (h.1 42 0 x3.toNatClampNeg)), .inl (.int x2)], h) rfl (fun _ => ?_)
    refine S_br 2 15 24 [.inr (34, 0), .inl (.int x1), .inl (.int x2), .inl (.int x3)] [.inl (.int x2)] h rfl (fun _ => ?_) (fun _ => ?_)
    · refine S_di 2 17 197 0 [.inr (34, 0), .inl (.int x1), .inl (.int x2), .inl (.int x3)] [.inl (.int x3), .inr (34, 0), .inl (.int x2)] [.inr (34, 0), .inl (.int x3)] [.inr (34, 0), .inl (.int x1), .inl (.int x2), .inl (.int x3)] [.inl (.int x2)] h rfl rfl pp_197 (by decide) (s_X12_isUsable x3 h) (fun y1 h2 => ?_)
      refine S_br 1 24 19 [.inr (34, 0), .inl (.int x1), .inl (.int x2), .inl (.int x3)] [.inl (.int x2)] h2 rfl (fun _ => ?_) (fun _ => ?_)
      · refine S_blk 5 (4, [.inr (34, 0), .inl (.int x1), .inl (.int (x2 ||| (0 : Int32))), .inl (.int (x3 + (1 : Int32)))], [], h2) rfl ?_
        refine S_nrm [.inr (34, 0), .inl (.int x1), .inl (.int (x2 ||| (0 : Int32))), .inl (.int (x3 + (1 : Int32)))] rfl ?_
        exact hrc (x2 ||| (0 : Int32)) (x3 + (1 : Int32)) h2
      · refine S_grd 4 (23, [.inr (34, 0), .inl (.int x1), .inl (.int x2), .inl (.int x3)], [.inl (.int (h2.1 43 0 x3.toNatClampNeg)), .inl (.int x2)], h2) rfl (fun _ => ?_)
        refine S_blk 5 (4, [.inr (34, 0), .inl (.int x1), .inl (.int (x2 ||| (h2.1 43 0 x3.toNatClampNeg))), .inl (.int (x3 + (1 : Int32)))], [], h2) rfl ?_
        refine S_nrm [.inr (34, 0), .inl (.int x1), .inl (.int (x2 ||| (h2.1 43 0 x3.toNatClampNeg))), .inl (.int (x3 + (1 : Int32)))] rfl ?_
        exact hrc (x2 ||| (h2.1 43 0 x3.toNatClampNeg)) (x3 + (1 : Int32)) h2
    · refine S_blk 5 (4, [.inr (34, 0), .inl (.int x1), .inl (.int (x2 ||| (0 : Int32))), .inl (.int (x3 + (1 : Int32)))], [], h) rfl ?_
      refine S_nrm [.inr (34, 0), .inl (.int x1), .inl (.int (x2 ||| (0 : Int32))), .inl (.int (x3 + (1 : Int32)))] rfl ?_
      exact hrc (x2 ||| (0 : Int32)) (x3 + (1 : Int32)) h
theorem sl_X12_nextSet_4    (x1 : Int32) : ∀ (F : Nat) (x2 : Int32) (x3 : Int32) (h : AH), Sim PP (1) k_X12_nextSet (4, [.inr (34, 0), .inl (.int x1), .inl (.int x2), .inl (.int x3)], [], h) (l_X12_nextSet_4 F x1 x2 x3 h) (fE PP (1) k_X12_nextSet 29 (fun v => [av0, av0, .inl (.int v), av0])) := by
  intro F
  induction F with
  | zero => intro x2 x3 h; exact S_none
  | succ F ih => intro x2 x3 h; exact sb_X12_nextSet_4 (l_X12_nextSet_4 F) x1 x2 x3 ih h
theorem sc_X12_nextSet_29    (x2 : Int32)  (h : AH) : Sim PP (1) k_X12_nextSet (29, [av0, av0, .inl (.int x2), av0], [], h) (c_X12_nextSet_29  x2 h) fI := by
  unfold c_X12_nextSet_29
  exact S_ri 1 (30, [av0, av0, .inl (.int x2), av0], [.inl (.int x2)], h) rfl rfl
theorem s_X12_nextSet (x1 : Int32) (h : AH) : Sim PP (1) k_X12_nextSet (0, [.inr (34, 0), .inl (.int x1), av0, av0], [], h) (f_X12_nextSet x1 h) fI := by
  unfold f_X12_nextSet
  refine S_blk 4 (4, [.inr (34, 0), .inl (.int x1), .inl (.int (0 : Int32)), .inl (.int (0 : Int32))], [], h) rfl ?_
  refine S_nrm [.inr (34, 0), .inl (.int x1), .inl (.int (0 : Int32)), .inl (.int (0 : Int32))] rfl ?_
  refine S_lp 29 (fun v => [av0, av0, .inl (.int v), av0]) (sl_X12_nextSet_4 x1 FU (0 : Int32) (0 : Int32) h) (fun v h => ?_)
  exact sc_X12_nextSet_29 v h
theorem sb_X12_layLongest_33 (D : Nat) (R : Int32 → Int32 → AH → Option (Unit × AH)) (rc : Int32 → Int32 → Int32 → Int32 → AH → Option (Unit × AH)) (x1 : Int32) (x2 : Int32) (x3 : Int32) (x4 : Int32) (hR : ∀ (x1 : Int32) (x2 : Int32) (h : AH), Sim PP (D + 2) k_X12_layLongest (0, [.inr (34, 0), .inl (.int x1), .inl (.int x2), av0, av0], [], h) (R x1 x2 h) fV) (hrc : ∀ (x4 : Int32) (h : AH), Sim PP (D + 1 + 2) k_X12_layLongest (33, [.inr (34, 0), .inl (.int x1), .inl (.int x2), .inl (.int x3), .inl (.int x4)], [], h) (rc x1 x2 x3 x4 h) (fE PP (D + 1 + 2) k_X12_layLongest 62 (fun v => [av0, av0, av0, av0, av0])))  (h : AH) : Sim PP (D + 1 + 2) k_X12_layLongest (33, [.inr (34, 0), .inl (.int x1), .inl (.int x2), .inl (.int x3), .inl (.int x4)], [], h) (b_X12_layLongest_33 R rc x1 x2 x3 x4 h) (fE PP (D + 1 + 2) k_X12_layLongest 62 (fun v => [av0, av0, av0, av0, av0])) := by
  unfold b_X12_layLongest_33
  refine S_br 4 62 37 [.inr (34, 0), .inl (.int x1), .inl (.int x2), .inl (.int x3), .inl (.int x4)] [] h rfl (fun _ => ?_) (fun _ => ?_)
  · exact S_ex () (fun v => [av0, av0, av0, av0, av0]) rfl
  · refine S_di 2 39 155 0 [.inr (34, 0), .inl (.int x1), .inl (.int x2), .inl (.int x3), .inl (.int x4)] [.inl (.int x4), .inl (.int x3)] [.inl (.int x3), .inl (.int x4)] [.inr (34, 0), .inl (.int x1), .inl (.int x2), .inl (.int x3), .inl (.int x4)] [] h rfl rfl pp_155 (by omega) (s_X12_has x3 x4 h) (fun y1 h2 => ?_)
    refine S_br 1 60 41 [.inr (34, 0), .inl (.int x1), .inl (.int x2), .inl (.int x3), .inl (.int x4)] [] h2 rfl (fun _ => ?_) (fun _ => ?_)
    · refine S_blk 2 (33, [.inr (34, 0), .inl (.int x1), .inl (.int x2), .inl (.int x3), .inl (.int (x4 + (1 : Int32)))], [], h2) rfl ?_
      refine S_nrm [.inr (34, 0), .inl (.int x1), .inl (.int x2), .inl (.int x3), .inl (.int (x4 + (1 : Int32)))] rfl ?_
      exact hrc (x4 + (1 : Int32)) h2
    · refine S_di 2 43 155 0 [.inr (34, 0), .inl (.int x1), .inl (.int x2), .inl (.int x3), .inl (.int x4)] [.inl (.int x4), .inl (.int x2)] [.inl (.int x2), .inl (.int x4)] [.inr (34, 0), .inl (.int x1), .inl (.int x2), .inl (.int x3), .inl (.int x4)] [] h2 rfl rfl pp_155 (by omega) (s_X12_has x2 x4 h2) (fun y3 h4 => ?_)
      refine S_br 1 45 60 [.inr (34, 0), .inl (.int x1), .inl (.int x2), .inl (.int x3), .inl (.int x4)] [] h4 rfl (fun _ => ?_) (fun _ => ?_)
      · refine S_grd 5 (50, [.inr (34, 0), .inl (.int x1), .inl (.int x2), .inl (.int x3), .inl (.int x4)], [], (hsI h4 57 0 x1.toNatClampNeg x4)) rfl (fun _ => ?_)
        refine S_dv 9 59 240 (D + 2) [.inr (34, 0), .inl (.int x1), .inl (.int x2), .inl (.int x3), .inl (.int x4)] [.inl (.int (x2 ||| ((1 : Int32) <<< (x4 &&& 31)))), .inl (.int (x1 + (1 : Int32))), .inr (34, 0)] [.inr (34, 0), .inl (.int (x1 + (1 : Int32))), .inl (.int (x2 ||| ((1 : Int32) <<< (x4 &&& 31)))), av0, av0] [.inr (34, 0), .inl (.int x1), .inl (.int x2), .inl (.int x3), .inl (.int x4)] [] (hsI h4 57 0 x1.toNatClampNeg x4) rfl rfl pp_240 (by omega) (hR (x1 + (1 : Int32)) (x2 ||| ((1 : Int32) <<< (x4 &&& 31))) (hsI h4 57 0 x1.toNatClampNeg x4)) (fun _ h6 => ?_)
        refine S_blk 2 (33, [.inr (34, 0), .inl (.int x1), .inl (.int x2), .inl (.int x3), .inl (.int (x4 + (1 : Int32)))], [], h6) rfl ?_
        refine S_nrm [.inr (34, 0), .inl (.int x1), .inl (.int x2), .inl (.int x3), .inl (.int (x4 + (1 : Int32)))] rfl ?_
        exact hrc (x4 + (1 : Int32)) h6
      · refine S_blk 2 (33, [.inr (34, 0), .inl (.int x1), .inl (.int x2), .inl (.int x3), .inl (.int (x4 + (1 : Int32)))], [], h4) rfl ?_
        refine S_nrm [.inr (34, 0), .inl (.int x1), .inl (.int x2), .inl (.int x3), .inl (.int (x4 + (1 : Int32)))] rfl ?_
        exact hrc (x4 + (1 : Int32)) h4
theorem sl_X12_layLongest_33 (D : Nat) (R : Int32 → Int32 → AH → Option (Unit × AH)) (hR : ∀ (x1 : Int32) (x2 : Int32) (h : AH), Sim PP (D + 2) k_X12_layLongest (0, [.inr (34, 0), .inl (.int x1), .inl (.int x2), av0, av0], [], h) (R x1 x2 h) fV) (x1 : Int32) (x2 : Int32) (x3 : Int32) : ∀ (F : Nat) (x4 : Int32) (h : AH), Sim PP (D + 1 + 2) k_X12_layLongest (33, [.inr (34, 0), .inl (.int x1), .inl (.int x2), .inl (.int x3), .inl (.int x4)], [], h) (l_X12_layLongest_33 R F x1 x2 x3 x4 h) (fE PP (D + 1 + 2) k_X12_layLongest 62 (fun v => [av0, av0, av0, av0, av0])) := by
  intro F
  induction F with
  | zero => intro x4 h; exact S_none
  | succ F ih => intro x4 h; exact sb_X12_layLongest_33 D R (l_X12_layLongest_33 R F) x1 x2 x3 x4 hR ih h
theorem sc_X12_layLongest_62 (D : Nat) (R : Int32 → Int32 → AH → Option (Unit × AH))   (hR : ∀ (x1 : Int32) (x2 : Int32) (h : AH), Sim PP (D + 2) k_X12_layLongest (0, [.inr (34, 0), .inl (.int x1), .inl (.int x2), av0, av0], [], h) (R x1 x2 h) fV) (h : AH) : Sim PP (D + 1 + 2) k_X12_layLongest (62, [av0, av0, av0, av0, av0], [], h) (c_X12_layLongest_62 R  h) fV := by
  unfold c_X12_layLongest_62
  exact S_rv 0 (62, [av0, av0, av0, av0, av0], [], h) rfl rfl
theorem sb_X12_layLongest_9 (D : Nat) (R : Int32 → Int32 → AH → Option (Unit × AH)) (rc : Int32 → Int32 → Int32 → AH → Option (Unit × AH)) (x1 : Int32) (x2 : Int32) (x3 : Int32) (hR : ∀ (x1 : Int32) (x2 : Int32) (h : AH), Sim PP (D + 2) k_X12_layLongest (0, [.inr (34, 0), .inl (.int x1), .inl (.int x2), av0, av0], [], h) (R x1 x2 h) fV) (hrc : ∀ (x3 : Int32) (h : AH), Sim PP (D + 1 + 2) k_X12_layLongest (9, [.inr (34, 0), .inl (.int x1), .inl (.int x2), .inl (.int x3), av0], [], h) (rc x1 x2 x3 h) (fE PP (D + 1 + 2) k_X12_layLongest 22 (fun v => [.inr (34, 0), .inl (.int x1), .inl (.int x2), av0, av0])))  (h : AH) : Sim PP (D + 1 + 2) k_X12_layLongest (9, [.inr (34, 0), .inl (.int x1), .inl (.int x2), .inl (.int x3), av0], [], h) (b_X12_layLongest_9 R rc x1 x2 x3 h) (fE PP (D + 1 + 2) k_X12_layLongest 22 (fun v => [.inr (34, 0), .inl (.int x1), .inl (.int x2), av0, av0])) := by
  unfold b_X12_layLongest_9
  refine S_br 3 22 12 [.inr (34, 0), .inl (.int x1), .inl (.int x2), .inl (.int x3), av0] [] h rfl (fun _ => ?_) (fun _ => ?_)
  · exact S_ex () (fun v => [.inr (34, 0), .inl (.int x1), .inl (.int x2), av0, av0]) rfl
  · refine S_grd 7 (19, [.inr (34, 0), .inl (.int x1), .inl (.int x2), .inl (.int x3), av0], [.inl (.int (h.1 57 0 x3.toNatClampNeg)), .inl (.int x3), .inr (58, 0)], h) rfl (fun _ => ?_)
    refine S_grd 1 (20, [.inr (34, 0), .inl (.int x1), .inl (.int x2), .inl (.int x3), av0], [], (hsI h 58 0 x3.toNatClampNeg (h.1 57 0 x3.toNatClampNeg))) rfl (fun _ => ?_)
    refine S_blk 2 (9, [.inr (34, 0), .inl (.int x1), .inl (.int x2), .inl (.int (x3 + (1 : Int32))), av0], [], (hsI h 58 0 x3.toNatClampNeg (h.1 57 0 x3.toNatClampNeg))) rfl ?_
    refine S_nrm [.inr (34, 0), .inl (.int x1), .inl (.int x2), .inl (.int (x3 + (1 : Int32))), av0] rfl ?_
    exact hrc (x3 + (1 : Int32)) (hsI h 58 0 x3.toNatClampNeg (h.1 57 0 x3.toNatClampNeg))
theorem sl_X12_layLongest_9 (D : Nat) (R : Int32 → Int32 → AH → Option (Unit × AH)) (hR : ∀ (x1 : Int32) (x2 : Int32) (h : AH), Sim PP (D + 2) k_X12_layLongest (0, [.inr (34, 0), .inl (.int x1), .inl (.int x2), av0, av0], [], h) (R x1 x2 h) fV) (x1 : Int32) (x2 : Int32) : ∀ (F : Nat) (x3 : Int32) (h : AH), Sim PP (D + 1 + 2) k_X12_layLongest (9, [.inr (34, 0), .inl (.int x1), .inl (.int x2), .inl (.int x3), av0], [], h) (l_X12_layLongest_9 R F x1 x2 x3 h) (fE PP (D + 1 + 2) k_X12_layLongest 22 (fun v => [.inr (34, 0), .inl (.int x1), .inl (.int x2), av0, av0])) := by
  intro F
  induction F with
  | zero => intro x3 h; exact S_none
  | succ F ih => intro x3 h; exact sb_X12_layLongest_9 D R (l_X12_layLongest_9 R F) x1 x2 x3 hR ih h
theorem sc_X12_layLongest_22 (D : Nat) (R : Int32 → Int32 → AH → Option (Unit × AH))  (x1 : Int32) (x2 : Int32) (hR : ∀ (x1 : Int32) (x2 : Int32) (h : AH), Sim PP (D + 2) k_X12_layLongest (0, [.inr (34, 0), .inl (.int x1), .inl (.int x2), av0, av0], [], h) (R x1 x2 h) fV) (h : AH) : Sim PP (D + 1 + 2) k_X12_layLongest (22, [.inr (34, 0), .inl (.int x1), .inl (.int x2), av0, av0], [], h) (c_X12_layLongest_22 R x1 x2 h) fV := by
  unfold c_X12_layLongest_22
  refine S_grd 7 (29, [.inr (34, 0), .inl (.int x1), .inl (.int x2), av0, av0], [.inl (.int (h.1 57 0 (x1 - (1 : Int32)).toNatClampNeg)), .inr (34, 0)], h) rfl (fun _ => ?_)
  refine S_di 0 29 239 1 [.inr (34, 0), .inl (.int x1), .inl (.int x2), av0, av0] [.inl (.int (h.1 57 0 (x1 - (1 : Int32)).toNatClampNeg)), .inr (34, 0)] [.inr (34, 0), .inl (.int (h.1 57 0 (x1 - (1 : Int32)).toNatClampNeg)), av0, av0] [.inr (34, 0), .inl (.int x1), .inl (.int x2), av0, av0] [] h rfl rfl pp_239 (by omega) (s_X12_nextSet (h.1 57 0 (x1 - (1 : Int32)).toNatClampNeg) h) (fun y1 h2 => ?_)
  refine S_blk 3 (33, [.inr (34, 0), .inl (.int x1), .inl (.int x2), .inl (.int y1), .inl (.int (0 : Int32))], [], h2) rfl ?_
  refine S_nrm [.inr (34, 0), .inl (.int x1), .inl (.int x2), .inl (.int y1), .inl (.int (0 : Int32))] rfl ?_
  refine S_lp 62 (fun v => [av0, av0, av0, av0, av0]) (sl_X12_layLongest_33 D R hR x1 x2 y1 FU (0 : Int32) h2) (fun v h => ?_)
  exact sc_X12_layLongest_62 D R hR h
theorem sg_X12_layLongest (D : Nat) (R : Int32 → Int32 → AH → Option (Unit × AH)) (hR : ∀ (x1 : Int32) (x2 : Int32) (h : AH), Sim PP (D + 2) k_X12_layLongest (0, [.inr (34, 0), .inl (.int x1), .inl (.int x2), av0, av0], [], h) (R x1 x2 h) fV) (x1 : Int32) (x2 : Int32) (h : AH) : Sim PP (D + 1 + 2) k_X12_layLongest (0, [.inr (34, 0), .inl (.int x1), .inl (.int x2), av0, av0], [], h) (g_X12_layLongest R x1 x2 h) fV := by
  unfold g_X12_layLongest
  refine S_br 4 22 4 [.inr (34, 0), .inl (.int x1), .inl (.int x2), av0, av0] [] h rfl (fun _ => ?_) (fun _ => ?_)
  · refine S_grd 7 (29, [.inr (34, 0), .inl (.int x1), .inl (.int x2), av0, av0], [.inl (.int (h.1 57 0 (x1 - (1 : Int32)).toNatClampNeg)), .inr (34, 0)], h) rfl (fun _ => ?_)
    refine S_di 0 29 239 1 [.inr (34, 0), .inl (.int x1), .inl (.int x2), av0, av0] [.inl (.int (h.1 57 0 (x1 - (1 : Int32)).toNatClampNeg)), .inr (34, 0)] [.inr (34, 0), .inl (.int (h.1 57 0 (x1 - (1 : Int32)).toNatClampNeg)), av0, av0] [.inr (34, 0), .inl (.int x1), .inl (.int x2), av0, av0] [] h rfl rfl pp_239 (by omega) (s_X12_nextSet (h.1 57 0 (x1 - (1 : Int32)).toNatClampNeg) h) (fun y1 h2 => ?_)
    refine S_blk 3 (33, [.inr (34, 0), .inl (.int x1), .inl (.int x2), .inl (.int y1), .inl (.int (0 : Int32))], [], h2) rfl ?_
    refine S_nrm [.inr (34, 0), .inl (.int x1), .inl (.int x2), .inl (.int y1), .inl (.int (0 : Int32))] rfl ?_
    refine S_lp 62 (fun v => [av0, av0, av0, av0, av0]) (sl_X12_layLongest_33 D R hR x1 x2 y1 FU (0 : Int32) h2) (fun v h => ?_)
    exact sc_X12_layLongest_62 D R hR h
  · refine S_blk 5 (9, [.inr (34, 0), .inl (.int x1), .inl (.int x2), .inl (.int (0 : Int32)), av0], [], (hsI h 34 0 38 x1)) rfl ?_
    refine S_nrm [.inr (34, 0), .inl (.int x1), .inl (.int x2), .inl (.int (0 : Int32)), av0] rfl ?_
    refine S_lp 22 (fun v => [.inr (34, 0), .inl (.int x1), .inl (.int x2), av0, av0]) (sl_X12_layLongest_9 D R hR x1 x2 FU (0 : Int32) (hsI h 34 0 38 x1)) (fun v h => ?_)
    exact sc_X12_layLongest_22 D R x1 x2 hR h
theorem s_X12_layLongest : ∀ (D : Nat) (x1 : Int32) (x2 : Int32) (h : AH), Sim PP (D + 2) k_X12_layLongest (0, [.inr (34, 0), .inl (.int x1), .inl (.int x2), av0, av0], [], h) (f_X12_layLongest D x1 x2 h) fV := by
  intro D
  induction D with
  | zero => intro x1 x2 h; exact S_none
  | succ D ih => intro x1 x2 h; exact sg_X12_layLongest D _ ih x1 x2 h
theorem sb_X12_layRow_m_bestTried_7  (rc : Int32 → Int32 → Int32 → AH → Option (Unit × AH)) (x1 : Int32) (x3 : Int32) (x4 : Int32) (hrc : ∀ (x4 : Int32) (h : AH), Sim PP (0) k_X12_layRow (7, [.inr (34, 0), .inl (.int x1), .inr (58, 0), .inl (.int x3), .inl (.int x4)], [], h) (rc x1 x3 x4 h) (fE PP (0) k_X12_layRow 28 (fun v => [av0, av0, av0, av0, av0])))  (h : AH) : Sim PP (0) k_X12_layRow (7, [.inr (34, 0), .inl (.int x1), .inr (58, 0), .inl (.int x3), .inl (.int x4)], [], h) (b_X12_layRow_m_bestTried_7 rc x1 x3 x4 h) (fE PP (0) k_X12_layRow 28 (fun v => [av0, av0, av0, av0, av0])) := by
  unfold b_X12_layRow_m_bestTried_7
  refine S_br 3 28 10 [.inr (34, 0), .inl (.int x1), .inr (58, 0), .inl (.int x3), .inl (.int x4)] [] h rfl (fun _ => ?_) (fun _ => ?_)
  · exact S_ex () (fun v => [av0, av0, av0, av0, av0]) rfl
  · refine S_br 10 24 20 [.inr (34, 0), .inl (.int x1), .inr (58, 0), .inl (.int x3), .inl (.int x4)] [.inl (.int (((40 : Int32) * x1) + x4)), .inr (37, 0)] h rfl (fun _ => ?_) (fun _ => ?_)
    · refine S_grd 2 (26, [.inr (34, 0), .inl (.int x1), .inr (58, 0), .inl (.int x3), .inl (.int x4)], [], (hsI h 37 0 (((40 : Int32) * x1) + x4).toNatClampNeg (0 : Int32))) rfl (fun _ => ?_)
      refine S_blk 2 (7, [.inr (34, 0), .inl (.int x1), .inr (58, 0), .inl (.int x3), .inl (.int (x4 + (1 : Int32)))], [], (hsI h 37 0 (((40 : Int32) * x1) + x4).toNatClampNeg (0 : Int32))) rfl ?_
      refine S_nrm [.inr (34, 0), .inl (.int x1), .inr (58, 0), .inl (.int x3), .inl (.int (x4 + (1 : Int32)))] rfl ?_
      exact hrc (x4 + (1 : Int32)) (hsI h 37 0 (((40 : Int32) * x1) + x4).toNatClampNeg (0 : Int32))
    · refine S_grd 3 (23, [.inr (34, 0), .inl (.int x1), .inr (58, 0), .inl (.int x3), .inl (.int x4)], [.inl (.int (h.1 58 0 x4.toNatClampNeg)), .inl (.int (((40 : Int32) * x1) + x4)), .inr (37, 0)], h) rfl (fun _ => ?_)
      refine S_grd 2 (26, [.inr (34, 0), .inl (.int x1), .inr (58, 0), .inl (.int x3), .inl (.int x4)], [], (hsI h 37 0 (((40 : Int32) * x1) + x4).toNatClampNeg (h.1 58 0 x4.toNatClampNeg))) rfl (fun _ => ?_)
      refine S_blk 2 (7, [.inr (34, 0), .inl (.int x1), .inr (58, 0), .inl (.int x3), .inl (.int (x4 + (1 : Int32)))], [], (hsI h 37 0 (((40 : Int32) * x1) + x4).toNatClampNeg (h.1 58 0 x4.toNatClampNeg))) rfl ?_
      refine S_nrm [.inr (34, 0), .inl (.int x1), .inr (58, 0), .inl (.int x3), .inl (.int (x4 + (1 : Int32)))] rfl ?_
      exact hrc (x4 + (1 : Int32)) (hsI h 37 0 (((40 : Int32) * x1) + x4).toNatClampNeg (h.1 58 0 x4.toNatClampNeg))
theorem sl_X12_layRow_m_bestTried_7    (x1 : Int32) (x3 : Int32) : ∀ (F : Nat) (x4 : Int32) (h : AH), Sim PP (0) k_X12_layRow (7, [.inr (34, 0), .inl (.int x1), .inr (58, 0), .inl (.int x3), .inl (.int x4)], [], h) (l_X12_layRow_m_bestTried_7 F x1 x3 x4 h) (fE PP (0) k_X12_layRow 28 (fun v => [av0, av0, av0, av0, av0])) := by
  intro F
  induction F with
  | zero => intro x4 h; exact S_none
  | succ F ih => intro x4 h; exact sb_X12_layRow_m_bestTried_7 (l_X12_layRow_m_bestTried_7 F) x1 x3 x4 ih h
theorem sc_X12_layRow_m_bestTried_28      (h : AH) : Sim PP (0) k_X12_layRow (28, [av0, av0, av0, av0, av0], [], h) (c_X12_layRow_m_bestTried_28   h) fV := by
  unfold c_X12_layRow_m_bestTried_28
  exact S_rv 0 (28, [av0, av0, av0, av0, av0], [], h) rfl rfl
theorem s_X12_layRow_m_bestTried (x1 : Int32) (x3 : Int32) (h : AH) : Sim PP (0) k_X12_layRow (0, [.inr (34, 0), .inl (.int x1), .inr (58, 0), .inl (.int x3), av0], [], h) (f_X12_layRow_m_bestTried x1 x3 h) fV := by
  unfold f_X12_layRow_m_bestTried
  refine S_grd 5 (5, [.inr (34, 0), .inl (.int x1), .inr (58, 0), .inl (.int x3), av0], [], (hsI h 36 0 x1.toNatClampNeg x3)) rfl (fun _ => ?_)
  refine S_blk 2 (7, [.inr (34, 0), .inl (.int x1), .inr (58, 0), .inl (.int x3), .inl (.int (0 : Int32))], [], (hsI h 36 0 x1.toNatClampNeg x3)) rfl ?_
  refine S_nrm [.inr (34, 0), .inl (.int x1), .inr (58, 0), .inl (.int x3), .inl (.int (0 : Int32))] rfl ?_
  refine S_lp 28 (fun v => [av0, av0, av0, av0, av0]) (sl_X12_layRow_m_bestTried_7 x1 x3 FU (0 : Int32) (hsI h 36 0 x1.toNatClampNeg x3)) (fun v h => ?_)
  exact sc_X12_layRow_m_bestTried_28 h
theorem s_X12_longest (x1 : Int32) (x2 : Int32) (h : AH) : Sim PP (15) k_X12_longest (0, [.inr (34, 0), .inl (.int x1), .inl (.int x2)], [], h) (f_X12_longest x1 x2 h) fI := by
  unfold f_X12_longest
  refine S_di 2 2 189 1 [.inr (34, 0), .inl (.int x1), .inl (.int x2)] [.inl (.int x1), .inr (34, 0)] [.inr (34, 0), .inl (.int x1)] [.inr (34, 0), .inl (.int x1), .inl (.int x2)] [] h rfl rfl pp_189 (by decide) (s_X12_isClaim x1 h) (fun y1 h2 => ?_)
  refine S_br 1 7 4 [.inr (34, 0), .inl (.int x1), .inl (.int x2)] [] h2 rfl (fun _ => ?_) (fun _ => ?_)
  · exact S_ri 1 (8, [.inr (34, 0), .inl (.int x1), .inl (.int x2)], [.inl (.int (-1 : Int32))], h2) rfl rfl
  · refine S_di 1 5 167 1 [.inr (34, 0), .inl (.int x1), .inl (.int x2)] [.inl (.int x2)] [.inl (.int x2)] [.inr (34, 0), .inl (.int x1), .inl (.int x2)] [] h2 rfl rfl pp_167 (by decide) (s_X12_isRow x2 h2) (fun y3 h4 => ?_)
    refine S_br 1 7 9 [.inr (34, 0), .inl (.int x1), .inl (.int x2)] [] h4 rfl (fun _ => ?_) (fun _ => ?_)
    · exact S_ri 1 (8, [.inr (34, 0), .inl (.int x1), .inl (.int x2)], [.inl (.int (-1 : Int32))], h4) rfl rfl
    · refine S_gt 8 (c := inb (0 : Int32) 32 = true) (17, [.inr (34, 0), .inl (.int x1), .inl (.int x2)], [], (hsI (hsI h4 34 0 38 (0 : Int32)) 57 0 (0 : Int32).toNatClampNeg x1)) rfl (by decide) ?_
      refine S_dv 5 22 240 14 [.inr (34, 0), .inl (.int x1), .inl (.int x2)] [.inl (.int ((1 : Int32) <<< (x1 &&& 31))), .inl (.int (1 : Int32)), .inr (34, 0)] [.inr (34, 0), .inl (.int (1 : Int32)), .inl (.int ((1 : Int32) <<< (x1 &&& 31))), av0, av0] [.inr (34, 0), .inl (.int x1), .inl (.int x2)] [] (hsI (hsI h4 34 0 38 (0 : Int32)) 57 0 (0 : Int32).toNatClampNeg x1) rfl rfl pp_240 (by decide) (s_X12_layLongest 12 (1 : Int32) ((1 : Int32) <<< (x1 &&& 31)) (hsI (hsI h4 34 0 38 (0 : Int32)) 57 0 (0 : Int32).toNatClampNeg x1)) (fun _ h6 => ?_)
      refine S_dv 6 29 179 0 [.inr (34, 0), .inl (.int x1), .inl (.int x2)] [.inl (.int (h6.1 34 0 38)), .inr (58, 0), .inl (.int x2), .inr (34, 0)] [.inr (34, 0), .inl (.int x2), .inr (58, 0), .inl (.int (h6.1 34 0 38)), av0] [.inr (34, 0), .inl (.int x1), .inl (.int x2)] [] h6 rfl rfl pp_179 (by decide) (s_X12_layRow_m_bestTried x2 (h6.1 34 0 38) h6) (fun _ h8 => ?_)
      exact S_ri 4 (34, [.inr (34, 0), .inl (.int x1), .inl (.int x2)], [.inl (.int ((h8.1 34 0 38) - (1 : Int32)))], h8) rfl rfl
theorem sb_X1_forcedInto_13  (rc : Int32 → Int32 → Int32 → AH → Option (Int32 × AH)) (x1 : Int32) (x2 : Int32) (x3 : Int32) (hrc : ∀ (x2 : Int32) (x3 : Int32) (h : AH), Sim PP (2) k_X1_forcedInto (13, [.inr (24, 0), .inl (.int x1), .inl (.int x2), .inl (.int x3), av0], [], h) (rc x1 x2 x3 h) (fE PP (2) k_X1_forcedInto 53 (fun v => [av0, av0, .inl (.int v), av0, av0])))  (h : AH) : Sim PP (2) k_X1_forcedInto (13, [.inr (24, 0), .inl (.int x1), .inl (.int x2), .inl (.int x3), av0], [], h) (b_X1_forcedInto_13 rc x1 x2 x3 h) (fE PP (2) k_X1_forcedInto 53 (fun v => [av0, av0, .inl (.int v), av0, av0])) := by
  unfold b_X1_forcedInto_13
  refine S_br 5 53 18 [.inr (24, 0), .inl (.int x1), .inl (.int x2), .inl (.int x3), av0] [] h rfl (fun _ => ?_) (fun _ => ?_)
  · exact S_ex x2 (fun v => [av0, av0, .inl (.int v), av0, av0]) rfl
  · refine S_di 3 21 0 1 [.inr (24, 0), .inl (.int x1), .inl (.int x2), .inl (.int x3), av0] [.inl (.int x3), .inr (18, 0)] [.inr (18, 0), .inl (.int x3)] [.inr (24, 0), .inl (.int x1), .inl (.int x2), .inl (.int x3), av0] [] h rfl rfl pp_0 (by decide) (s_X0_isUsable x3 h) (fun y1 h2 => ?_)
    refine S_br 1 33 23 [.inr (24, 0), .inl (.int x1), .inl (.int x2), .inl (.int x3), av0] [] h2 rfl (fun _ => ?_) (fun _ => ?_)
    · refine S_bt 5 (c := (0 : Int32) = 0) 48 38 [.inr (24, 0), .inl (.int x1), .inl (.int x2), .inl (.int x3), .inl (.int (0 : Int32))] [.inl (.int x2)] h2 rfl (by decide) ?_
      refine S_blk 5 (13, [.inr (24, 0), .inl (.int x1), .inl (.int (x2 &&& (-1 : Int32))), .inl (.int (x3 + (1 : Int32))), .inl (.int (0 : Int32))], [], h2) rfl ?_
      refine S_nrm [.inr (24, 0), .inl (.int x1), .inl (.int (x2 &&& (-1 : Int32))), .inl (.int (x3 + (1 : Int32))), av0] rfl ?_
      exact hrc (x2 &&& (-1 : Int32)) (x3 + (1 : Int32)) h2
    · refine S_grd 5 (28, [.inr (24, 0), .inl (.int x1), .inl (.int x2), .inl (.int x3), av0], [.inl (.int (h2.1 16 0 x3.toNatClampNeg))], h2) rfl (fun _ => ?_)
      refine S_br 3 31 33 [.inr (24, 0), .inl (.int x1), .inl (.int x2), .inl (.int x3), av0] [] h2 rfl (fun _ => ?_) (fun _ => ?_)
      · refine S_bf 6 (c := (1 : Int32) = 0) 48 38 [.inr (24, 0), .inl (.int x1), .inl (.int x2), .inl (.int x3), .inl (.int (1 : Int32))] [.inl (.int x2)] h2 rfl (by decide) ?_
        refine S_grd 6 (44, [.inr (24, 0), .inl (.int x1), .inl (.int x2), .inl (.int x3), .inl (.int (1 : Int32))], [.inl (.int (h2.1 15 0 x3.toNatClampNeg)), .inl (.int (1 : Int32)), .inl (.int x2)], h2) rfl (fun _ => ?_)
        refine S_blk 8 (13, [.inr (24, 0), .inl (.int x1), .inl (.int (x2 &&& (((1 : Int32) <<< ((h2.1 15 0 x3.toNatClampNeg) &&& 31)) ^^^ (-1 : Int32)))), .inl (.int (x3 + (1 : Int32))), .inl (.int (1 : Int32))], [], h2) rfl ?_
        refine S_nrm [.inr (24, 0), .inl (.int x1), .inl (.int (x2 &&& (((1 : Int32) <<< ((h2.1 15 0 x3.toNatClampNeg) &&& 31)) ^^^ (-1 : Int32)))), .inl (.int (x3 + (1 : Int32))), av0] rfl ?_
        exact hrc (x2 &&& (((1 : Int32) <<< ((h2.1 15 0 x3.toNatClampNeg) &&& 31)) ^^^ (-1 : Int32))) (x3 + (1 : Int32)) h2
      · refine S_bt 5 (c := (0 : Int32) = 0) 48 38 [.inr (24, 0), .inl (.int x1), .inl (.int x2), .inl (.int x3), .inl (.int (0 : Int32))] [.inl (.int x2)] h2 rfl (by decide) ?_
        refine S_blk 5 (13, [.inr (24, 0), .inl (.int x1), .inl (.int (x2 &&& (-1 : Int32))), .inl (.int (x3 + (1 : Int32))), .inl (.int (0 : Int32))], [], h2) rfl ?_
        refine S_nrm [.inr (24, 0), .inl (.int x1), .inl (.int (x2 &&& (-1 : Int32))), .inl (.int (x3 + (1 : Int32))), av0] rfl ?_
        exact hrc (x2 &&& (-1 : Int32)) (x3 + (1 : Int32)) h2
theorem sl_X1_forcedInto_13    (x1 : Int32) : ∀ (F : Nat) (x2 : Int32) (x3 : Int32) (h : AH), Sim PP (2) k_X1_forcedInto (13, [.inr (24, 0), .inl (.int x1), .inl (.int x2), .inl (.int x3), av0], [], h) (l_X1_forcedInto_13 F x1 x2 x3 h) (fE PP (2) k_X1_forcedInto 53 (fun v => [av0, av0, .inl (.int v), av0, av0])) := by
  intro F
  induction F with
  | zero => intro x2 x3 h; exact S_none
  | succ F ih => intro x2 x3 h; exact sb_X1_forcedInto_13 (l_X1_forcedInto_13 F) x1 x2 x3 ih h
theorem sc_X1_forcedInto_53    (x2 : Int32)  (h : AH) : Sim PP (2) k_X1_forcedInto (53, [av0, av0, .inl (.int x2), av0, av0], [], h) (c_X1_forcedInto_53  x2 h) fI := by
  unfold c_X1_forcedInto_53
  exact S_ri 1 (54, [av0, av0, .inl (.int x2), av0, av0], [.inl (.int x2)], h) rfl rfl
theorem s_X1_forcedInto (x1 : Int32) (h : AH) : Sim PP (2) k_X1_forcedInto (0, [.inr (24, 0), .inl (.int x1), av0, av0, av0], [], h) (f_X1_forcedInto x1 h) fI := by
  unfold f_X1_forcedInto
  refine S_di 2 2 50 0 [.inr (24, 0), .inl (.int x1), av0, av0, av0] [.inr (12, 0)] [.inr (12, 0)] [.inr (24, 0), .inl (.int x1), av0, av0, av0] [] h rfl rfl pp_50 (by decide) (s_X6_allBits 0 h) (fun y1 h2 => ?_)
  refine S_di 3 6 51 1 [.inr (24, 0), .inl (.int x1), av0, av0, av0] [.inl (.int (1 : Int32)), .inr (12, 0), .inl (.int y1)] [.inr (12, 0), .inl (.int (1 : Int32))] [.inr (24, 0), .inl (.int x1), av0, av0, av0] [.inl (.int y1)] h2 rfl rfl pp_51 (by decide) (s_X6_bitsOf 0 (1 : Int32) h2) (fun y3 h4 => ?_)
  refine S_blk 6 (13, [.inr (24, 0), .inl (.int x1), .inl (.int (y1 &&& (y3 ^^^ (-1 : Int32)))), .inl (.int (0 : Int32)), av0], [], h4) rfl ?_
  refine S_nrm [.inr (24, 0), .inl (.int x1), .inl (.int (y1 &&& (y3 ^^^ (-1 : Int32)))), .inl (.int (0 : Int32)), av0] rfl ?_
  refine S_lp 53 (fun v => [av0, av0, .inl (.int v), av0, av0]) (sl_X1_forcedInto_13 x1 FU (y1 &&& (y3 ^^^ (-1 : Int32))) (0 : Int32) h4) (fun v h => ?_)
  exact sc_X1_forcedInto_53 v h
theorem sb_X1_losingBits_6  (rc : Int32 → Int32 → AH → Option (Unit × AH)) (x1 : Int32) (x2 : Int32) (hrc : ∀ (x2 : Int32) (h : AH), Sim PP (3) k_X1_losingBits (6, [.inr (24, 0), .inl (.int x1), .inl (.int x2), av0, av0, av0], [], h) (rc x1 x2 h) (fE PP (3) k_X1_losingBits 24 (fun v => [.inr (24, 0), .inl (.int x1), av0, av0, av0, av0])))  (h : AH) : Sim PP (3) k_X1_losingBits (6, [.inr (24, 0), .inl (.int x1), .inl (.int x2), av0, av0, av0], [], h) (b_X1_losingBits_6 rc x1 x2 h) (fE PP (3) k_X1_losingBits 24 (fun v => [.inr (24, 0), .inl (.int x1), av0, av0, av0, av0])) := by
  unfold b_X1_losingBits_6
  refine S_br 5 24 11 [.inr (24, 0), .inl (.int x1), .inl (.int x2), av0, av0, av0] [] h rfl (fun _ => ?_) (fun _ => ?_)
  · exact S_ex () (fun v => [.inr (24, 0), .inl (.int x1), av0, av0, av0, av0]) rfl
  · refine S_di 5 16 138 0 [.inr (24, 0), .inl (.int x1), .inl (.int x2), av0, av0, av0] [.inl (.int x2), .inl (.int x1), .inl (.int x2), .inr (25, 0)] [.inl (.int x1), .inl (.int x2)] [.inr (24, 0), .inl (.int x1), .inl (.int x2), av0, av0, av0] [.inl (.int x2), .inr (25, 0)] h rfl rfl pp_138 (by decide) (s_X11_has x1 x2 h) (fun y1 h2 => ?_)
    refine S_br 1 20 18 [.inr (24, 0), .inl (.int x1), .inl (.int x2), av0, av0, av0] [.inl (.int x2), .inr (25, 0)] h2 rfl (fun _ => ?_) (fun _ => ?_)
    · refine S_grd 2 (22, [.inr (24, 0), .inl (.int x1), .inl (.int x2), av0, av0, av0], [], (hsI h2 25 0 x2.toNatClampNeg (-9 : Int32))) rfl (fun _ => ?_)
      refine S_blk 2 (6, [.inr (24, 0), .inl (.int x1), .inl (.int (x2 + (1 : Int32))), av0, av0, av0], [], (hsI h2 25 0 x2.toNatClampNeg (-9 : Int32))) rfl ?_
      refine S_nrm [.inr (24, 0), .inl (.int x1), .inl (.int (x2 + (1 : Int32))), av0, av0, av0] rfl ?_
      exact hrc (x2 + (1 : Int32)) (hsI h2 25 0 x2.toNatClampNeg (-9 : Int32))
    · refine S_grd 3 (22, [.inr (24, 0), .inl (.int x1), .inl (.int x2), av0, av0, av0], [], (hsI h2 25 0 x2.toNatClampNeg (0 : Int32))) rfl (fun _ => ?_)
      refine S_blk 2 (6, [.inr (24, 0), .inl (.int x1), .inl (.int (x2 + (1 : Int32))), av0, av0, av0], [], (hsI h2 25 0 x2.toNatClampNeg (0 : Int32))) rfl ?_
      refine S_nrm [.inr (24, 0), .inl (.int x1), .inl (.int (x2 + (1 : Int32))), av0, av0, av0] rfl ?_
      exact hrc (x2 + (1 : Int32)) (hsI h2 25 0 x2.toNatClampNeg (0 : Int32))
theorem sl_X1_losingBits_6    (x1 : Int32) : ∀ (F : Nat) (x2 : Int32) (h : AH), Sim PP (3) k_X1_losingBits (6, [.inr (24, 0), .inl (.int x1), .inl (.int x2), av0, av0, av0], [], h) (l_X1_losingBits_6 F x1 x2 h) (fE PP (3) k_X1_losingBits 24 (fun v => [.inr (24, 0), .inl (.int x1), av0, av0, av0, av0])) := by
  intro F
  induction F with
  | zero => intro x2 h; exact S_none
  | succ F ih => intro x2 h; exact sb_X1_losingBits_6 (l_X1_losingBits_6 F) x1 x2 ih h
theorem sb_X1_losingBits_43  (rc : Int32 → Int32 → Int32 → Int32 → AH → Option (Unit × AH)) (x1 : Int32) (x3 : Int32) (x4 : Int32) (x5 : Int32) (hrc : ∀ (x5 : Int32) (h : AH), Sim PP (3) k_X1_losingBits (43, [.inr (24, 0), .inl (.int x1), av0, .inl (.int x3), .inl (.int x4), .inl (.int x5)], [], h) (rc x1 x3 x4 x5 h) (fE PP (3) k_X1_losingBits 64 (fun v => [.inr (24, 0), .inl (.int x1), av0, .inl (.int x3), .inl (.int x4), av0])))  (h : AH) : Sim PP (3) k_X1_losingBits (43, [.inr (24, 0), .inl (.int x1), av0, .inl (.int x3), .inl (.int x4), .inl (.int x5)], [], h) (b_X1_losingBits_43 rc x1 x3 x4 x5 h) (fE PP (3) k_X1_losingBits 64 (fun v => [.inr (24, 0), .inl (.int x1), av0, .inl (.int x3), .inl (.int x4), av0])) := by
  unfold b_X1_losingBits_43
  refine S_br 5 64 48 [.inr (24, 0), .inl (.int x1), av0, .inl (.int x3), .inl (.int x4), .inl (.int x5)] [] h rfl (fun _ => ?_) (fun _ => ?_)
  · exact S_ex () (fun v => [.inr (24, 0), .inl (.int x1), av0, .inl (.int x3), .inl (.int x4), av0]) rfl
  · refine S_di 5 53 138 0 [.inr (24, 0), .inl (.int x1), av0, .inl (.int x3), .inl (.int x4), .inl (.int x5)] [.inl (.int x5), .inl (.int x4), .inl (.int x5), .inr (25, 0)] [.inl (.int x4), .inl (.int x5)] [.inr (24, 0), .inl (.int x1), av0, .inl (.int x3), .inl (.int x4), .inl (.int x5)] [.inl (.int x5), .inr (25, 0)] h rfl rfl pp_138 (by decide) (s_X11_has x4 x5 h) (fun y1 h2 => ?_)
    refine S_br 1 57 55 [.inr (24, 0), .inl (.int x1), av0, .inl (.int x3), .inl (.int x4), .inl (.int x5)] [.inl (.int x5), .inr (25, 0)] h2 rfl (fun _ => ?_) (fun _ => ?_)
    · refine S_grd 4 (61, [.inr (24, 0), .inl (.int x1), av0, .inl (.int x3), .inl (.int x4), .inl (.int x5)], [.inl (.int (h2.1 25 0 x5.toNatClampNeg)), .inl (.int x5), .inr (25, 0)], h2) rfl (fun _ => ?_)
      refine S_grd 1 (62, [.inr (24, 0), .inl (.int x1), av0, .inl (.int x3), .inl (.int x4), .inl (.int x5)], [], (hsI h2 25 0 x5.toNatClampNeg (h2.1 25 0 x5.toNatClampNeg))) rfl (fun _ => ?_)
      refine S_blk 2 (43, [.inr (24, 0), .inl (.int x1), av0, .inl (.int x3), .inl (.int x4), .inl (.int (x5 + (1 : Int32)))], [], (hsI h2 25 0 x5.toNatClampNeg (h2.1 25 0 x5.toNatClampNeg))) rfl ?_
      refine S_nrm [.inr (24, 0), .inl (.int x1), av0, .inl (.int x3), .inl (.int x4), .inl (.int (x5 + (1 : Int32)))] rfl ?_
      exact hrc (x5 + (1 : Int32)) (hsI h2 25 0 x5.toNatClampNeg (h2.1 25 0 x5.toNatClampNeg))
    · refine S_grd 3 (62, [.inr (24, 0), .inl (.int x1), av0, .inl (.int x3), .inl (.int x4), .inl (.int x5)], [], (hsI h2 25 0 x5.toNatClampNeg x3)) rfl (fun _ => ?_)
      refine S_blk 2 (43, [.inr (24, 0), .inl (.int x1), av0, .inl (.int x3), .inl (.int x4), .inl (.int (x5 + (1 : Int32)))], [], (hsI h2 25 0 x5.toNatClampNeg x3)) rfl ?_
      refine S_nrm [.inr (24, 0), .inl (.int x1), av0, .inl (.int x3), .inl (.int x4), .inl (.int (x5 + (1 : Int32)))] rfl ?_
      exact hrc (x5 + (1 : Int32)) (hsI h2 25 0 x5.toNatClampNeg x3)
theorem sl_X1_losingBits_43    (x1 : Int32) (x3 : Int32) (x4 : Int32) : ∀ (F : Nat) (x5 : Int32) (h : AH), Sim PP (3) k_X1_losingBits (43, [.inr (24, 0), .inl (.int x1), av0, .inl (.int x3), .inl (.int x4), .inl (.int x5)], [], h) (l_X1_losingBits_43 F x1 x3 x4 x5 h) (fE PP (3) k_X1_losingBits 64 (fun v => [.inr (24, 0), .inl (.int x1), av0, .inl (.int x3), .inl (.int x4), av0])) := by
  intro F
  induction F with
  | zero => intro x5 h; exact S_none
  | succ F ih => intro x5 h; exact sb_X1_losingBits_43 (l_X1_losingBits_43 F) x1 x3 x4 x5 ih h
theorem sc_X1_losingBits_64  (rc : Int32 → Int32 → Int32 → AH → Option (Int32 × AH))  (x1 : Int32) (x3 : Int32) (x4 : Int32) (hrc : ∀ (x1 : Int32) (x2 : Int32) (x3 : Int32) (h : AH), Sim PP (3) k_X1_losingBits (28, [.inr (24, 0), .inl (.int x1), .inl (.int x2), .inl (.int x3), av0, av0], [], h) (rc x1 x2 x3 h) (fE PP (3) k_X1_losingBits 76 (fun v => [av0, .inl (.int v), av0, av0, av0, av0]))) (h : AH) : Sim PP (3) k_X1_losingBits (64, [.inr (24, 0), .inl (.int x1), av0, .inl (.int x3), .inl (.int x4), av0], [], h) (c_X1_losingBits_64 rc x1 x3 x4 h) (fE PP (3) k_X1_losingBits 76 (fun v => [av0, .inl (.int v), av0, av0, av0, av0])) := by
  unfold c_X1_losingBits_64
  refine S_br 6 72 70 [.inr (24, 0), .inl (.int (x1 ||| x4)), av0, .inl (.int x3), .inl (.int x4), av0] [] h rfl (fun _ => ?_) (fun _ => ?_)
  · refine S_blk 4 (28, [.inr (24, 0), .inl (.int (x1 ||| x4)), .inl (.int (0 : Int32)), .inl (.int (x3 + (1 : Int32))), .inl (.int x4), av0], [], h) rfl ?_
    refine S_nrm [.inr (24, 0), .inl (.int (x1 ||| x4)), .inl (.int (0 : Int32)), .inl (.int (x3 + (1 : Int32))), av0, av0] rfl ?_
    exact hrc (x1 ||| x4) (0 : Int32) (x3 + (1 : Int32)) h
  · refine S_blk 5 (28, [.inr (24, 0), .inl (.int (x1 ||| x4)), .inl (.int (1 : Int32)), .inl (.int (x3 + (1 : Int32))), .inl (.int x4), av0], [], h) rfl ?_
    refine S_nrm [.inr (24, 0), .inl (.int (x1 ||| x4)), .inl (.int (1 : Int32)), .inl (.int (x3 + (1 : Int32))), av0, av0] rfl ?_
    exact hrc (x1 ||| x4) (1 : Int32) (x3 + (1 : Int32)) h
theorem sb_X1_losingBits_28  (rc : Int32 → Int32 → Int32 → AH → Option (Int32 × AH)) (x1 : Int32) (x2 : Int32) (x3 : Int32) (hrc : ∀ (x1 : Int32) (x2 : Int32) (x3 : Int32) (h : AH), Sim PP (3) k_X1_losingBits (28, [.inr (24, 0), .inl (.int x1), .inl (.int x2), .inl (.int x3), av0, av0], [], h) (rc x1 x2 x3 h) (fE PP (3) k_X1_losingBits 76 (fun v => [av0, .inl (.int v), av0, av0, av0, av0])))  (h : AH) : Sim PP (3) k_X1_losingBits (28, [.inr (24, 0), .inl (.int x1), .inl (.int x2), .inl (.int x3), av0, av0], [], h) (b_X1_losingBits_28 rc x1 x2 x3 h) (fE PP (3) k_X1_losingBits 76 (fun v => [av0, .inl (.int v), av0, av0, av0, av0])) := by
  unfold b_X1_losingBits_28
  refine S_br 2 76 30 [.inr (24, 0), .inl (.int x1), .inl (.int x2), .inl (.int x3), av0, av0] [] h rfl (fun _ => ?_) (fun _ => ?_)
  · exact S_ex x1 (fun v => [av0, .inl (.int v), av0, av0, av0, av0]) rfl
  · refine S_br 3 76 33 [.inr (24, 0), .inl (.int x1), .inl (.int x2), .inl (.int x3), av0, av0] [] h rfl (fun _ => ?_) (fun _ => ?_)
    · exact S_ex x1 (fun v => [av0, .inl (.int v), av0, av0, av0, av0]) rfl
    · refine S_di 2 35 15 2 [.inr (24, 0), .inl (.int x1), .inl (.int x2), .inl (.int x3), av0, av0] [.inl (.int x1), .inr (24, 0)] [.inr (24, 0), .inl (.int x1), av0, av0, av0] [.inr (24, 0), .inl (.int x1), .inl (.int x2), .inl (.int x3), av0, av0] [] h rfl rfl pp_15 (by decide) (s_X1_forcedInto x1 h) (fun y1 h2 => ?_)
      refine S_blk 7 (43, [.inr (24, 0), .inl (.int x1), .inl (.int x2), .inl (.int x3), .inl (.int (y1 &&& (x1 ^^^ (-1 : Int32)))), .inl (.int (0 : Int32))], [], h2) rfl ?_
      refine S_nrm [.inr (24, 0), .inl (.int x1), av0, .inl (.int x3), .inl (.int (y1 &&& (x1 ^^^ (-1 : Int32)))), .inl (.int (0 : Int32))] rfl ?_
      refine S_lp 64 (fun v => [.inr (24, 0), .inl (.int x1), av0, .inl (.int x3), .inl (.int (y1 &&& (x1 ^^^ (-1 : Int32)))), av0]) (sl_X1_losingBits_43 x1 x3 (y1 &&& (x1 ^^^ (-1 : Int32))) FU (0 : Int32) h2) (fun v h => ?_)
      exact sc_X1_losingBits_64 rc x1 x3 (y1 &&& (x1 ^^^ (-1 : Int32))) hrc h
theorem sl_X1_losingBits_28     : ∀ (F : Nat) (x1 : Int32) (x2 : Int32) (x3 : Int32) (h : AH), Sim PP (3) k_X1_losingBits (28, [.inr (24, 0), .inl (.int x1), .inl (.int x2), .inl (.int x3), av0, av0], [], h) (l_X1_losingBits_28 F x1 x2 x3 h) (fE PP (3) k_X1_losingBits 76 (fun v => [av0, .inl (.int v), av0, av0, av0, av0])) := by
  intro F
  induction F with
  | zero => intro x1 x2 x3 h; exact S_none
  | succ F ih => intro x1 x2 x3 h; exact sb_X1_losingBits_28 (l_X1_losingBits_28 F) x1 x2 x3 ih h
theorem sc_X1_losingBits_76    (x1 : Int32)  (h : AH) : Sim PP (3) k_X1_losingBits (76, [av0, .inl (.int x1), av0, av0, av0, av0], [], h) (c_X1_losingBits_76  x1 h) fI := by
  unfold c_X1_losingBits_76
  exact S_ri 1 (77, [av0, .inl (.int x1), av0, av0, av0, av0], [.inl (.int x1)], h) rfl rfl
theorem sc_X1_losingBits_24    (x1 : Int32)  (h : AH) : Sim PP (3) k_X1_losingBits (24, [.inr (24, 0), .inl (.int x1), av0, av0, av0, av0], [], h) (c_X1_losingBits_24  x1 h) fI := by
  unfold c_X1_losingBits_24
  refine S_blk 4 (28, [.inr (24, 0), .inl (.int x1), .inl (.int (1 : Int32)), .inl (.int (1 : Int32)), av0, av0], [], h) rfl ?_
  refine S_nrm [.inr (24, 0), .inl (.int x1), .inl (.int (1 : Int32)), .inl (.int (1 : Int32)), av0, av0] rfl ?_
  refine S_lp 76 (fun v => [av0, .inl (.int v), av0, av0, av0, av0]) (sl_X1_losingBits_28  FU x1 (1 : Int32) (1 : Int32) h) (fun v h => ?_)
  exact sc_X1_losingBits_76 v h
theorem s_X1_losingBits  (h : AH) : Sim PP (3) k_X1_losingBits (0, [.inr (24, 0), av0, av0, av0, av0, av0], [], h) (f_X1_losingBits  h) fI := by
  unfold f_X1_losingBits
  refine S_di 2 2 2 2 [.inr (24, 0), av0, av0, av0, av0, av0] [.inr (18, 0)] [.inr (18, 0), av0, av0] [.inr (24, 0), av0, av0, av0, av0, av0] [] h rfl rfl pp_2 (by decide) (s_X0_lossBits  h) (fun y1 h2 => ?_)
  refine S_blk 3 (6, [.inr (24, 0), .inl (.int y1), .inl (.int (0 : Int32)), av0, av0, av0], [], h2) rfl ?_
  refine S_nrm [.inr (24, 0), .inl (.int y1), .inl (.int (0 : Int32)), av0, av0, av0] rfl ?_
  refine S_lp 24 (fun v => [.inr (24, 0), .inl (.int y1), av0, av0, av0, av0]) (sl_X1_losingBits_6 y1 FU (0 : Int32) h2) (fun v h => ?_)
  exact sc_X1_losingBits_24 y1 h
theorem s_X11_lost  (h : AH) : Sim PP (4) k_X11_lost (0, [.inr (0, 0)], [], h) (f_X11_lost  h) fI := by
  unfold f_X11_lost
  refine S_di 2 2 14 3 [.inr (0, 0)] [.inr (24, 0)] [.inr (24, 0), av0, av0, av0, av0, av0] [.inr (0, 0)] [] h rfl rfl pp_14 (by decide) (s_X1_losingBits  h) (fun y1 h2 => ?_)
  exact S_ri 0 (3, [.inr (0, 0)], [.inl (.int y1)], h2) rfl rfl
theorem sb_X12_hasLost_4  (rc : Int32 → Int32 → Int32 → AH → Option (Int32 × AH)) (x1 : Int32) (x2 : Int32) (x3 : Int32) (hrc : ∀ (x2 : Int32) (x3 : Int32) (h : AH), Sim PP (1) k_X12_hasLost (4, [.inr (34, 0), .inl (.int x1), .inl (.int x2), .inl (.int x3)], [], h) (rc x1 x2 x3 h) (fE PP (1) k_X12_hasLost 29 (fun v => [av0, av0, .inl (.int v), av0])))  (h : AH) : Sim PP (1) k_X12_hasLost (4, [.inr (34, 0), .inl (.int x1), .inl (.int x2), .inl (.int x3)], [], h) (b_X12_hasLost_4 rc x1 x2 x3 h) (fE PP (1) k_X12_hasLost 29 (fun v => [av0, av0, .inl (.int v), av0])) := by
  unfold b_X12_hasLost_4
  refine S_br 4 29 8 [.inr (34, 0), .inl (.int x1), .inl (.int x2), .inl (.int x3)] [] h rfl (fun _ => ?_) (fun _ => ?_)
  · exact S_ex x2 (fun v => [av0, av0, .inl (.int v), av0]) rfl
  · refine S_br 2 10 23 [.inr (34, 0), .inl (.int x1), .inl (.int x2), .inl (.int x3)] [] h rfl (fun _ => ?_) (fun _ => ?_)
    · refine S_grd 4 (14, [.inr (34, 0), .inl (.int x1), .inl (.int x2), .inl (.int x3)], [.inl (.int (h.1 43 0 x1.toNatClampNeg))], h) rfl (fun _ => ?_)
      refine S_di 1 15 155 0 [.inr (34, 0), .inl (.int x1), .inl (.int x2), .inl (.int x3)] [.inl (.int x3), .inl (.int (h.1 43 0 x1.toNatClampNeg))] [.inl (.int (h.1 43 0 x1.toNatClampNeg)), .inl (.int x3)] [.inr (34, 0), .inl (.int x1), .inl (.int x2), .inl (.int x3)] [] h rfl rfl pp_155 (by decide) (s_X12_has (h.1 43 0 x1.toNatClampNeg) x3 h) (fun y1 h2 => ?_)
      refine S_br 1 25 17 [.inr (34, 0), .inl (.int x1), .inl (.int x2), .inl (.int x3)] [] h2 rfl (fun _ => ?_) (fun _ => ?_)
      · refine S_blk 4 (4, [.inr (34, 0), .inl (.int x1), .inl (.int (0 : Int32)), .inl (.int (x3 + (1 : Int32)))], [], h2) rfl ?_
        refine S_nrm [.inr (34, 0), .inl (.int x1), .inl (.int (0 : Int32)), .inl (.int (x3 + (1 : Int32)))] rfl ?_
        exact hrc (0 : Int32) (x3 + (1 : Int32)) h2
      · refine S_grd 4 (21, [.inr (34, 0), .inl (.int x1), .inl (.int x2), .inl (.int x3)], [.inl (.int (h2.1 55 0 x3.toNatClampNeg))], h2) rfl (fun _ => ?_)
        refine S_br 2 25 23 [.inr (34, 0), .inl (.int x1), .inl (.int x2), .inl (.int x3)] [] h2 rfl (fun _ => ?_) (fun _ => ?_)
        · refine S_blk 4 (4, [.inr (34, 0), .inl (.int x1), .inl (.int (0 : Int32)), .inl (.int (x3 + (1 : Int32)))], [], h2) rfl ?_
          refine S_nrm [.inr (34, 0), .inl (.int x1), .inl (.int (0 : Int32)), .inl (.int (x3 + (1 : Int32)))] rfl ?_
          exact hrc (0 : Int32) (x3 + (1 : Int32)) h2
        · refine S_blk 5 (4, [.inr (34, 0), .inl (.int x1), .inl (.int (1 : Int32)), .inl (.int (x3 + (1 : Int32)))], [], h2) rfl ?_
          refine S_nrm [.inr (34, 0), .inl (.int x1), .inl (.int (1 : Int32)), .inl (.int (x3 + (1 : Int32)))] rfl ?_
          exact hrc (1 : Int32) (x3 + (1 : Int32)) h2
    · refine S_blk 5 (4, [.inr (34, 0), .inl (.int x1), .inl (.int (1 : Int32)), .inl (.int (x3 + (1 : Int32)))], [], h) rfl ?_
      refine S_nrm [.inr (34, 0), .inl (.int x1), .inl (.int (1 : Int32)), .inl (.int (x3 + (1 : Int32)))] rfl ?_
      exact hrc (1 : Int32) (x3 + (1 : Int32)) h
theorem sl_X12_hasLost_4    (x1 : Int32) : ∀ (F : Nat) (x2 : Int32) (x3 : Int32) (h : AH), Sim PP (1) k_X12_hasLost (4, [.inr (34, 0), .inl (.int x1), .inl (.int x2), .inl (.int x3)], [], h) (l_X12_hasLost_4 F x1 x2 x3 h) (fE PP (1) k_X12_hasLost 29 (fun v => [av0, av0, .inl (.int v), av0])) := by
  intro F
  induction F with
  | zero => intro x2 x3 h; exact S_none
  | succ F ih => intro x2 x3 h; exact sb_X12_hasLost_4 (l_X12_hasLost_4 F) x1 x2 x3 ih h
theorem sc_X12_hasLost_29    (x2 : Int32)  (h : AH) : Sim PP (1) k_X12_hasLost (29, [av0, av0, .inl (.int x2), av0], [], h) (c_X12_hasLost_29  x2 h) fI := by
  unfold c_X12_hasLost_29
  exact S_ri 1 (30, [av0, av0, .inl (.int x2), av0], [.inl (.int x2)], h) rfl rfl
theorem s_X12_hasLost (x1 : Int32) (h : AH) : Sim PP (1) k_X12_hasLost (0, [.inr (34, 0), .inl (.int x1), av0, av0], [], h) (f_X12_hasLost x1 h) fI := by
  unfold f_X12_hasLost
  refine S_blk 4 (4, [.inr (34, 0), .inl (.int x1), .inl (.int (0 : Int32)), .inl (.int (0 : Int32))], [], h) rfl ?_
  refine S_nrm [.inr (34, 0), .inl (.int x1), .inl (.int (0 : Int32)), .inl (.int (0 : Int32))] rfl ?_
  refine S_lp 29 (fun v => [av0, av0, .inl (.int v), av0]) (sl_X12_hasLost_4 x1 FU (0 : Int32) (0 : Int32) h) (fun v h => ?_)
  exact sc_X12_hasLost_29 v h
theorem sb_X12_areAllLost_4  (rc : Int32 → Int32 → Int32 → AH → Option (Int32 × AH)) (x1 : Int32) (x2 : Int32) (x3 : Int32) (hrc : ∀ (x2 : Int32) (x3 : Int32) (h : AH), Sim PP (2) k_X12_areAllLost (4, [.inr (34, 0), .inl (.int x1), .inl (.int x2), .inl (.int x3)], [], h) (rc x1 x2 x3 h) (fE PP (2) k_X12_areAllLost 30 (fun v => [av0, av0, .inl (.int v), av0])))  (h : AH) : Sim PP (2) k_X12_areAllLost (4, [.inr (34, 0), .inl (.int x1), .inl (.int x2), .inl (.int x3)], [], h) (b_X12_areAllLost_4 rc x1 x2 x3 h) (fE PP (2) k_X12_areAllLost 30 (fun v => [av0, av0, .inl (.int v), av0])) := by
  unfold b_X12_areAllLost_4
  refine S_br 4 30 8 [.inr (34, 0), .inl (.int x1), .inl (.int x2), .inl (.int x3)] [] h rfl (fun _ => ?_) (fun _ => ?_)
  · exact S_ex x2 (fun v => [av0, av0, .inl (.int v), av0]) rfl
  · refine S_br 2 26 10 [.inr (34, 0), .inl (.int x1), .inl (.int x2), .inl (.int x3)] [] h rfl (fun _ => ?_) (fun _ => ?_)
    · refine S_blk 4 (4, [.inr (34, 0), .inl (.int x1), .inl (.int (0 : Int32)), .inl (.int (x3 + (1 : Int32)))], [], h) rfl ?_
      refine S_nrm [.inr (34, 0), .inl (.int x1), .inl (.int (0 : Int32)), .inl (.int (x3 + (1 : Int32)))] rfl ?_
      exact hrc (0 : Int32) (x3 + (1 : Int32)) h
    · refine S_grd 4 (14, [.inr (34, 0), .inl (.int x1), .inl (.int x2), .inl (.int x3)], [.inl (.int (h.1 42 0 x3.toNatClampNeg))], h) rfl (fun _ => ?_)
      refine S_br 2 16 24 [.inr (34, 0), .inl (.int x1), .inl (.int x2), .inl (.int x3)] [] h rfl (fun _ => ?_) (fun _ => ?_)
      · refine S_di 2 18 197 0 [.inr (34, 0), .inl (.int x1), .inl (.int x2), .inl (.int x3)] [.inl (.int x3), .inr (34, 0)] [.inr (34, 0), .inl (.int x3)] [.inr (34, 0), .inl (.int x1), .inl (.int x2), .inl (.int x3)] [] h rfl rfl pp_197 (by decide) (s_X12_isUsable x3 h) (fun y1 h2 => ?_)
        refine S_br 1 24 20 [.inr (34, 0), .inl (.int x1), .inl (.int x2), .inl (.int x3)] [] h2 rfl (fun _ => ?_) (fun _ => ?_)
        · refine S_blk 5 (4, [.inr (34, 0), .inl (.int x1), .inl (.int (1 : Int32)), .inl (.int (x3 + (1 : Int32)))], [], h2) rfl ?_
          refine S_nrm [.inr (34, 0), .inl (.int x1), .inl (.int (1 : Int32)), .inl (.int (x3 + (1 : Int32)))] rfl ?_
          exact hrc (1 : Int32) (x3 + (1 : Int32)) h2
        · refine S_di 2 22 244 1 [.inr (34, 0), .inl (.int x1), .inl (.int x2), .inl (.int x3)] [.inl (.int x3), .inr (34, 0)] [.inr (34, 0), .inl (.int x3), av0, av0] [.inr (34, 0), .inl (.int x1), .inl (.int x2), .inl (.int x3)] [] h2 rfl rfl pp_244 (by decide) (s_X12_hasLost x3 h2) (fun y3 h4 => ?_)
          refine S_br 1 26 24 [.inr (34, 0), .inl (.int x1), .inl (.int x2), .inl (.int x3)] [] h4 rfl (fun _ => ?_) (fun _ => ?_)
          · refine S_blk 4 (4, [.inr (34, 0), .inl (.int x1), .inl (.int (0 : Int32)), .inl (.int (x3 + (1 : Int32)))], [], h4) rfl ?_
            refine S_nrm [.inr (34, 0), .inl (.int x1), .inl (.int (0 : Int32)), .inl (.int (x3 + (1 : Int32)))] rfl ?_
            exact hrc (0 : Int32) (x3 + (1 : Int32)) h4
          · refine S_blk 5 (4, [.inr (34, 0), .inl (.int x1), .inl (.int (1 : Int32)), .inl (.int (x3 + (1 : Int32)))], [], h4) rfl ?_
            refine S_nrm [.inr (34, 0), .inl (.int x1), .inl (.int (1 : Int32)), .inl (.int (x3 + (1 : Int32)))] rfl ?_
            exact hrc (1 : Int32) (x3 + (1 : Int32)) h4
      · refine S_blk 5 (4, [.inr (34, 0), .inl (.int x1), .inl (.int (1 : Int32)), .inl (.int (x3 + (1 : Int32)))], [], h) rfl ?_
        refine S_nrm [.inr (34, 0), .inl (.int x1), .inl (.int (1 : Int32)), .inl (.int (x3 + (1 : Int32)))] rfl ?_
        exact hrc (1 : Int32) (x3 + (1 : Int32)) h
theorem sl_X12_areAllLost_4    (x1 : Int32) : ∀ (F : Nat) (x2 : Int32) (x3 : Int32) (h : AH), Sim PP (2) k_X12_areAllLost (4, [.inr (34, 0), .inl (.int x1), .inl (.int x2), .inl (.int x3)], [], h) (l_X12_areAllLost_4 F x1 x2 x3 h) (fE PP (2) k_X12_areAllLost 30 (fun v => [av0, av0, .inl (.int v), av0])) := by
  intro F
  induction F with
  | zero => intro x2 x3 h; exact S_none
  | succ F ih => intro x2 x3 h; exact sb_X12_areAllLost_4 (l_X12_areAllLost_4 F) x1 x2 x3 ih h
theorem sc_X12_areAllLost_30    (x2 : Int32)  (h : AH) : Sim PP (2) k_X12_areAllLost (30, [av0, av0, .inl (.int x2), av0], [], h) (c_X12_areAllLost_30  x2 h) fI := by
  unfold c_X12_areAllLost_30
  exact S_ri 1 (31, [av0, av0, .inl (.int x2), av0], [.inl (.int x2)], h) rfl rfl
theorem s_X12_areAllLost (x1 : Int32) (h : AH) : Sim PP (2) k_X12_areAllLost (0, [.inr (34, 0), .inl (.int x1), av0, av0], [], h) (f_X12_areAllLost x1 h) fI := by
  unfold f_X12_areAllLost
  refine S_blk 4 (4, [.inr (34, 0), .inl (.int x1), .inl (.int (1 : Int32)), .inl (.int (0 : Int32))], [], h) rfl ?_
  refine S_nrm [.inr (34, 0), .inl (.int x1), .inl (.int (1 : Int32)), .inl (.int (0 : Int32))] rfl ?_
  refine S_lp 30 (fun v => [av0, av0, .inl (.int v), av0]) (sl_X12_areAllLost_4 x1 FU (1 : Int32) (0 : Int32) h) (fun v h => ?_)
  exact sc_X12_areAllLost_30 v h
theorem sb_X12_layLoss_2  (rc : Int32 → AH → Option (Unit × AH)) (x1 : Int32) (hrc : ∀ (x1 : Int32) (h : AH), Sim PP (3) k_X12_layLoss (2, [.inr (34, 0), .inl (.int x1), av0], [], h) (rc x1 h) (fE PP (3) k_X12_layLoss 19 (fun v => [.inr (34, 0), av0, av0])))  (h : AH) : Sim PP (3) k_X12_layLoss (2, [.inr (34, 0), .inl (.int x1), av0], [], h) (b_X12_layLoss_2 rc x1 h) (fE PP (3) k_X12_layLoss 19 (fun v => [.inr (34, 0), av0, av0])) := by
  unfold b_X12_layLoss_2
  refine S_br 4 19 6 [.inr (34, 0), .inl (.int x1), av0] [] h rfl (fun _ => ?_) (fun _ => ?_)
  · exact S_ex () (fun v => [.inr (34, 0), av0, av0]) rfl
  · refine S_di 5 11 199 2 [.inr (34, 0), .inl (.int x1), av0] [.inl (.int x1), .inr (34, 0), .inl (.int x1), .inr (56, 0)] [.inr (34, 0), .inl (.int x1)] [.inr (34, 0), .inl (.int x1), av0] [.inl (.int x1), .inr (56, 0)] h rfl rfl pp_199 (by decide) (s_X12_isAtLoss x1 h) (fun y1 h2 => ?_)
    refine S_br 1 15 13 [.inr (34, 0), .inl (.int x1), av0] [.inl (.int x1), .inr (56, 0)] h2 rfl (fun _ => ?_) (fun _ => ?_)
    · refine S_grd 2 (17, [.inr (34, 0), .inl (.int x1), av0], [], (hsI h2 56 0 x1.toNatClampNeg (-9 : Int32))) rfl (fun _ => ?_)
      refine S_blk 2 (2, [.inr (34, 0), .inl (.int (x1 + (1 : Int32))), av0], [], (hsI h2 56 0 x1.toNatClampNeg (-9 : Int32))) rfl ?_
      refine S_nrm [.inr (34, 0), .inl (.int (x1 + (1 : Int32))), av0] rfl ?_
      exact hrc (x1 + (1 : Int32)) (hsI h2 56 0 x1.toNatClampNeg (-9 : Int32))
    · refine S_grd 3 (17, [.inr (34, 0), .inl (.int x1), av0], [], (hsI h2 56 0 x1.toNatClampNeg (0 : Int32))) rfl (fun _ => ?_)
      refine S_blk 2 (2, [.inr (34, 0), .inl (.int (x1 + (1 : Int32))), av0], [], (hsI h2 56 0 x1.toNatClampNeg (0 : Int32))) rfl ?_
      refine S_nrm [.inr (34, 0), .inl (.int (x1 + (1 : Int32))), av0] rfl ?_
      exact hrc (x1 + (1 : Int32)) (hsI h2 56 0 x1.toNatClampNeg (0 : Int32))
theorem sl_X12_layLoss_2     : ∀ (F : Nat) (x1 : Int32) (h : AH), Sim PP (3) k_X12_layLoss (2, [.inr (34, 0), .inl (.int x1), av0], [], h) (l_X12_layLoss_2 F x1 h) (fE PP (3) k_X12_layLoss 19 (fun v => [.inr (34, 0), av0, av0])) := by
  intro F
  induction F with
  | zero => intro x1 h; exact S_none
  | succ F ih => intro x1 h; exact sb_X12_layLoss_2 (l_X12_layLoss_2 F) x1 ih h
theorem sb_X12_layLoss_29  (rc : Int32 → Int32 → AH → Option (Unit × AH)) (x1 : Int32) (x2 : Int32) (hrc : ∀ (x2 : Int32) (h : AH), Sim PP (3) k_X12_layLoss (29, [.inr (34, 0), .inl (.int x1), .inl (.int x2)], [], h) (rc x1 x2 h) (fE PP (3) k_X12_layLoss 59 (fun v => [.inr (34, 0), .inl (.int x1), av0])))  (h : AH) : Sim PP (3) k_X12_layLoss (29, [.inr (34, 0), .inl (.int x1), .inl (.int x2)], [], h) (b_X12_layLoss_29 rc x1 x2 h) (fE PP (3) k_X12_layLoss 59 (fun v => [.inr (34, 0), .inl (.int x1), av0])) := by
  unfold b_X12_layLoss_29
  refine S_br 4 59 33 [.inr (34, 0), .inl (.int x1), .inl (.int x2)] [] h rfl (fun _ => ?_) (fun _ => ?_)
  · exact S_ex () (fun v => [.inr (34, 0), .inl (.int x1), av0]) rfl
  · refine S_grd 7 (40, [.inr (34, 0), .inl (.int x1), .inl (.int x2)], [.inl (.int (h.1 56 0 x2.toNatClampNeg)), .inl (.int x2), .inr (56, 0)], h) rfl (fun _ => ?_)
    refine S_br 2 42 52 [.inr (34, 0), .inl (.int x1), .inl (.int x2)] [.inl (.int x2), .inr (56, 0)] h rfl (fun _ => ?_) (fun _ => ?_)
    · refine S_di 2 44 193 1 [.inr (34, 0), .inl (.int x1), .inl (.int x2)] [.inl (.int x2), .inr (34, 0), .inl (.int x2), .inr (56, 0)] [.inr (34, 0), .inl (.int x2)] [.inr (34, 0), .inl (.int x1), .inl (.int x2)] [.inl (.int x2), .inr (56, 0)] h rfl rfl pp_193 (by decide) (s_X12_isEnd x2 h) (fun y1 h2 => ?_)
      refine S_br 1 46 52 [.inr (34, 0), .inl (.int x1), .inl (.int x2)] [.inl (.int x2), .inr (56, 0)] h2 rfl (fun _ => ?_) (fun _ => ?_)
      · refine S_di 2 48 243 2 [.inr (34, 0), .inl (.int x1), .inl (.int x2)] [.inl (.int x2), .inr (34, 0), .inl (.int x2), .inr (56, 0)] [.inr (34, 0), .inl (.int x2), av0, av0] [.inr (34, 0), .inl (.int x1), .inl (.int x2)] [.inl (.int x2), .inr (56, 0)] h2 rfl rfl pp_243 (by decide) (s_X12_areAllLost x2 h2) (fun y3 h4 => ?_)
        refine S_br 1 52 50 [.inr (34, 0), .inl (.int x1), .inl (.int x2)] [.inl (.int x2), .inr (56, 0)] h4 rfl (fun _ => ?_) (fun _ => ?_)
        · refine S_grd 4 (56, [.inr (34, 0), .inl (.int x1), .inl (.int x2)], [.inl (.int (h4.1 56 0 x2.toNatClampNeg)), .inl (.int x2), .inr (56, 0)], h4) rfl (fun _ => ?_)
          refine S_grd 1 (57, [.inr (34, 0), .inl (.int x1), .inl (.int x2)], [], (hsI h4 56 0 x2.toNatClampNeg (h4.1 56 0 x2.toNatClampNeg))) rfl (fun _ => ?_)
          refine S_blk 2 (29, [.inr (34, 0), .inl (.int x1), .inl (.int (x2 + (1 : Int32)))], [], (hsI h4 56 0 x2.toNatClampNeg (h4.1 56 0 x2.toNatClampNeg))) rfl ?_
          refine S_nrm [.inr (34, 0), .inl (.int x1), .inl (.int (x2 + (1 : Int32)))] rfl ?_
          exact hrc (x2 + (1 : Int32)) (hsI h4 56 0 x2.toNatClampNeg (h4.1 56 0 x2.toNatClampNeg))
        · refine S_grd 3 (57, [.inr (34, 0), .inl (.int x1), .inl (.int x2)], [], (hsI h4 56 0 x2.toNatClampNeg x1)) rfl (fun _ => ?_)
          refine S_blk 2 (29, [.inr (34, 0), .inl (.int x1), .inl (.int (x2 + (1 : Int32)))], [], (hsI h4 56 0 x2.toNatClampNeg x1)) rfl ?_
          refine S_nrm [.inr (34, 0), .inl (.int x1), .inl (.int (x2 + (1 : Int32)))] rfl ?_
          exact hrc (x2 + (1 : Int32)) (hsI h4 56 0 x2.toNatClampNeg x1)
      · refine S_grd 4 (56, [.inr (34, 0), .inl (.int x1), .inl (.int x2)], [.inl (.int (h2.1 56 0 x2.toNatClampNeg)), .inl (.int x2), .inr (56, 0)], h2) rfl (fun _ => ?_)
        refine S_grd 1 (57, [.inr (34, 0), .inl (.int x1), .inl (.int x2)], [], (hsI h2 56 0 x2.toNatClampNeg (h2.1 56 0 x2.toNatClampNeg))) rfl (fun _ => ?_)
        refine S_blk 2 (29, [.inr (34, 0), .inl (.int x1), .inl (.int (x2 + (1 : Int32)))], [], (hsI h2 56 0 x2.toNatClampNeg (h2.1 56 0 x2.toNatClampNeg))) rfl ?_
        refine S_nrm [.inr (34, 0), .inl (.int x1), .inl (.int (x2 + (1 : Int32)))] rfl ?_
        exact hrc (x2 + (1 : Int32)) (hsI h2 56 0 x2.toNatClampNeg (h2.1 56 0 x2.toNatClampNeg))
    · refine S_grd 4 (56, [.inr (34, 0), .inl (.int x1), .inl (.int x2)], [.inl (.int (h.1 56 0 x2.toNatClampNeg)), .inl (.int x2), .inr (56, 0)], h) rfl (fun _ => ?_)
      refine S_grd 1 (57, [.inr (34, 0), .inl (.int x1), .inl (.int x2)], [], (hsI h 56 0 x2.toNatClampNeg (h.1 56 0 x2.toNatClampNeg))) rfl (fun _ => ?_)
      refine S_blk 2 (29, [.inr (34, 0), .inl (.int x1), .inl (.int (x2 + (1 : Int32)))], [], (hsI h 56 0 x2.toNatClampNeg (h.1 56 0 x2.toNatClampNeg))) rfl ?_
      refine S_nrm [.inr (34, 0), .inl (.int x1), .inl (.int (x2 + (1 : Int32)))] rfl ?_
      exact hrc (x2 + (1 : Int32)) (hsI h 56 0 x2.toNatClampNeg (h.1 56 0 x2.toNatClampNeg))
theorem sl_X12_layLoss_29    (x1 : Int32) : ∀ (F : Nat) (x2 : Int32) (h : AH), Sim PP (3) k_X12_layLoss (29, [.inr (34, 0), .inl (.int x1), .inl (.int x2)], [], h) (l_X12_layLoss_29 F x1 x2 h) (fE PP (3) k_X12_layLoss 59 (fun v => [.inr (34, 0), .inl (.int x1), av0])) := by
  intro F
  induction F with
  | zero => intro x2 h; exact S_none
  | succ F ih => intro x2 h; exact sb_X12_layLoss_29 (l_X12_layLoss_29 F) x1 x2 ih h
theorem sc_X12_layLoss_59  (rc : Int32 → AH → Option (Unit × AH))  (x1 : Int32) (hrc : ∀ (x1 : Int32) (h : AH), Sim PP (3) k_X12_layLoss (21, [.inr (34, 0), .inl (.int x1), av0], [], h) (rc x1 h) (fE PP (3) k_X12_layLoss 61 (fun v => [.inr (34, 0), av0, av0]))) (h : AH) : Sim PP (3) k_X12_layLoss (59, [.inr (34, 0), .inl (.int x1), av0], [], h) (c_X12_layLoss_59 rc x1 h) (fE PP (3) k_X12_layLoss 61 (fun v => [.inr (34, 0), av0, av0])) := by
  unfold c_X12_layLoss_59
  refine S_blk 2 (21, [.inr (34, 0), .inl (.int (x1 + (1 : Int32))), av0], [], h) rfl ?_
  refine S_nrm [.inr (34, 0), .inl (.int (x1 + (1 : Int32))), av0] rfl ?_
  exact hrc (x1 + (1 : Int32)) h
theorem sb_X12_layLoss_21  (rc : Int32 → AH → Option (Unit × AH)) (x1 : Int32) (hrc : ∀ (x1 : Int32) (h : AH), Sim PP (3) k_X12_layLoss (21, [.inr (34, 0), .inl (.int x1), av0], [], h) (rc x1 h) (fE PP (3) k_X12_layLoss 61 (fun v => [.inr (34, 0), av0, av0])))  (h : AH) : Sim PP (3) k_X12_layLoss (21, [.inr (34, 0), .inl (.int x1), av0], [], h) (b_X12_layLoss_21 rc x1 h) (fE PP (3) k_X12_layLoss 61 (fun v => [.inr (34, 0), av0, av0])) := by
  unfold b_X12_layLoss_21
  refine S_br 4 61 25 [.inr (34, 0), .inl (.int x1), av0] [] h rfl (fun _ => ?_) (fun _ => ?_)
  · exact S_ex () (fun v => [.inr (34, 0), av0, av0]) rfl
  · refine S_dv 1 26 231 0 [.inr (34, 0), .inl (.int x1), av0] [.inr (34, 0)] [.inr (34, 0), av0] [.inr (34, 0), .inl (.int x1), av0] [] h rfl rfl pp_231 (by decide) (s_X12_takeThens  h) (fun _ h2 => ?_)
    refine S_blk 2 (29, [.inr (34, 0), .inl (.int x1), .inl (.int (0 : Int32))], [], h2) rfl ?_
    refine S_nrm [.inr (34, 0), .inl (.int x1), .inl (.int (0 : Int32))] rfl ?_
    refine S_lp 59 (fun v => [.inr (34, 0), .inl (.int x1), av0]) (sl_X12_layLoss_29 x1 FU (0 : Int32) h2) (fun v h => ?_)
    exact sc_X12_layLoss_59 rc x1 hrc h
theorem sl_X12_layLoss_21     : ∀ (F : Nat) (x1 : Int32) (h : AH), Sim PP (3) k_X12_layLoss (21, [.inr (34, 0), .inl (.int x1), av0], [], h) (l_X12_layLoss_21 F x1 h) (fE PP (3) k_X12_layLoss 61 (fun v => [.inr (34, 0), av0, av0])) := by
  intro F
  induction F with
  | zero => intro x1 h; exact S_none
  | succ F ih => intro x1 h; exact sb_X12_layLoss_21 (l_X12_layLoss_21 F) x1 ih h
theorem sc_X12_layLoss_61      (h : AH) : Sim PP (3) k_X12_layLoss (61, [.inr (34, 0), av0, av0], [], h) (c_X12_layLoss_61   h) fV := by
  unfold c_X12_layLoss_61
  refine S_dv 1 62 231 0 [.inr (34, 0), av0, av0] [.inr (34, 0)] [.inr (34, 0), av0] [.inr (34, 0), av0, av0] [] h rfl rfl pp_231 (by decide) (s_X12_takeThens  h) (fun _ h2 => ?_)
  exact S_rv 0 (63, [.inr (34, 0), av0, av0], [], h2) rfl rfl
theorem sc_X12_layLoss_19      (h : AH) : Sim PP (3) k_X12_layLoss (19, [.inr (34, 0), av0, av0], [], h) (c_X12_layLoss_19   h) fV := by
  unfold c_X12_layLoss_19
  refine S_blk 2 (21, [.inr (34, 0), .inl (.int (1 : Int32)), av0], [], h) rfl ?_
  refine S_nrm [.inr (34, 0), .inl (.int (1 : Int32)), av0] rfl ?_
  refine S_lp 61 (fun v => [.inr (34, 0), av0, av0]) (sl_X12_layLoss_21  FU (1 : Int32) h) (fun v h => ?_)
  exact sc_X12_layLoss_61 h
theorem s_X12_layLoss  (h : AH) : Sim PP (3) k_X12_layLoss (0, [.inr (34, 0), av0, av0], [], h) (f_X12_layLoss  h) fV := by
  unfold f_X12_layLoss
  refine S_blk 2 (2, [.inr (34, 0), .inl (.int (0 : Int32)), av0], [], h) rfl ?_
  refine S_nrm [.inr (34, 0), .inl (.int (0 : Int32)), av0] rfl ?_
  refine S_lp 19 (fun v => [.inr (34, 0), av0, av0]) (sl_X12_layLoss_2  FU (0 : Int32) h) (fun v h => ?_)
  exact sc_X12_layLoss_19 h
theorem sb_X12_lost_6  (rc : Int32 → Int32 → AH → Option (Int32 × AH)) (x1 : Int32) (x2 : Int32) (hrc : ∀ (x1 : Int32) (x2 : Int32) (h : AH), Sim PP (4) k_X12_lost (6, [.inr (34, 0), .inl (.int x1), .inl (.int x2)], [], h) (rc x1 x2 h) (fE PP (4) k_X12_lost 26 (fun v => [av0, .inl (.int v), av0])))  (h : AH) : Sim PP (4) k_X12_lost (6, [.inr (34, 0), .inl (.int x1), .inl (.int x2)], [], h) (b_X12_lost_6 rc x1 x2 h) (fE PP (4) k_X12_lost 26 (fun v => [av0, .inl (.int v), av0])) := by
  unfold b_X12_lost_6
  refine S_br 4 26 10 [.inr (34, 0), .inl (.int x1), .inl (.int x2)] [] h rfl (fun _ => ?_) (fun _ => ?_)
  · exact S_ex x1 (fun v => [av0, .inl (.int v), av0]) rfl
  · refine S_grd 5 (15, [.inr (34, 0), .inl (.int x1), .inl (.int x2)], [.inl (.int (h.1 55 0 x2.toNatClampNeg)), .inl (.int x1)], h) rfl (fun _ => ?_)
    refine S_br 2 21 17 [.inr (34, 0), .inl (.int x1), .inl (.int x2)] [.inl (.int x1)] h rfl (fun _ => ?_) (fun _ => ?_)
    · refine S_blk 5 (6, [.inr (34, 0), .inl (.int (x1 ||| (0 : Int32))), .inl (.int (x2 + (1 : Int32)))], [], h) rfl ?_
      refine S_nrm [.inr (34, 0), .inl (.int (x1 ||| (0 : Int32))), .inl (.int (x2 + (1 : Int32)))] rfl ?_
      exact hrc (x1 ||| (0 : Int32)) (x2 + (1 : Int32)) h
    · refine S_blk 8 (6, [.inr (34, 0), .inl (.int (x1 ||| ((1 : Int32) <<< (x2 &&& 31)))), .inl (.int (x2 + (1 : Int32)))], [], h) rfl ?_
      refine S_nrm [.inr (34, 0), .inl (.int (x1 ||| ((1 : Int32) <<< (x2 &&& 31)))), .inl (.int (x2 + (1 : Int32)))] rfl ?_
      exact hrc (x1 ||| ((1 : Int32) <<< (x2 &&& 31))) (x2 + (1 : Int32)) h
theorem sl_X12_lost_6     : ∀ (F : Nat) (x1 : Int32) (x2 : Int32) (h : AH), Sim PP (4) k_X12_lost (6, [.inr (34, 0), .inl (.int x1), .inl (.int x2)], [], h) (l_X12_lost_6 F x1 x2 h) (fE PP (4) k_X12_lost 26 (fun v => [av0, .inl (.int v), av0])) := by
  intro F
  induction F with
  | zero => intro x1 x2 h; exact S_none
  | succ F ih => intro x1 x2 h; exact sb_X12_lost_6 (l_X12_lost_6 F) x1 x2 ih h
theorem sc_X12_lost_26    (x1 : Int32)  (h : AH) : Sim PP (4) k_X12_lost (26, [av0, .inl (.int x1), av0], [], h) (c_X12_lost_26  x1 h) fI := by
  unfold c_X12_lost_26
  exact S_ri 1 (27, [av0, .inl (.int x1), av0], [.inl (.int x1)], h) rfl rfl
theorem s_X12_lost  (h : AH) : Sim PP (4) k_X12_lost (0, [.inr (34, 0), av0, av0], [], h) (f_X12_lost  h) fI := by
  unfold f_X12_lost
  refine S_dv 1 1 242 3 [.inr (34, 0), av0, av0] [.inr (34, 0)] [.inr (34, 0), av0, av0] [.inr (34, 0), av0, av0] [] h rfl rfl pp_242 (by decide) (s_X12_layLoss  h) (fun _ h2 => ?_)
  refine S_blk 4 (6, [.inr (34, 0), .inl (.int (0 : Int32)), .inl (.int (0 : Int32))], [], h2) rfl ?_
  refine S_nrm [.inr (34, 0), .inl (.int (0 : Int32)), .inl (.int (0 : Int32))] rfl ?_
  refine S_lp 26 (fun v => [av0, .inl (.int v), av0]) (sl_X12_lost_6  FU (0 : Int32) (0 : Int32) h2) (fun v h => ?_)
  exact sc_X12_lost_26 v h
theorem sb_X1_safeReason_5  (rc : Int32 → Int32 → Int32 → AH → Option (Int32 × AH)) (x1 : Int32) (x2 : Int32) (x3 : Int32) (hrc : ∀ (x1 : Int32) (x2 : Int32) (x3 : Int32) (h : AH), Sim PP (4) k_X1_safeReason (5, [.inr (24, 0), .inl (.int x1), .inl (.int x2), .inl (.int x3)], [], h) (rc x1 x2 x3 h) fI)  (h : AH) : Sim PP (4) k_X1_safeReason (5, [.inr (24, 0), .inl (.int x1), .inl (.int x2), .inl (.int x3)], [], h) (b_X1_safeReason_5 rc x1 x2 x3 h) fI := by
  unfold b_X1_safeReason_5
  refine S_br 5 34 10 [.inr (24, 0), .inl (.int x1), .inl (.int x2), .inl (.int x3)] [] h rfl (fun _ => ?_) (fun _ => ?_)
  · exact S_ri 1 (35, [av0, av0, av0, av0], [.inl (.int (-9 : Int32))], h) rfl rfl
  · refine S_grd 5 (15, [.inr (24, 0), .inl (.int x1), .inl (.int x2), .inl (.int x3)], [.inl (.int (h.1 15 0 x3.toNatClampNeg))], h) rfl (fun _ => ?_)
    refine S_br 2 17 32 [.inr (24, 0), .inl (.int x1), .inl (.int x2), .inl (.int x3)] [] h rfl (fun _ => ?_) (fun _ => ?_)
    · refine S_di 3 20 0 1 [.inr (24, 0), .inl (.int x1), .inl (.int x2), .inl (.int x3)] [.inl (.int x3), .inr (18, 0)] [.inr (18, 0), .inl (.int x3)] [.inr (24, 0), .inl (.int x1), .inl (.int x2), .inl (.int x3)] [] h rfl rfl pp_0 (by decide) (s_X0_isUsable x3 h) (fun y1 h2 => ?_)
      refine S_br 1 32 22 [.inr (24, 0), .inl (.int x1), .inl (.int x2), .inl (.int x3)] [] h2 rfl (fun _ => ?_) (fun _ => ?_)
      · refine S_blk 2 (5, [.inr (24, 0), .inl (.int x1), .inl (.int x2), .inl (.int (x3 + (1 : Int32)))], [], h2) rfl ?_
        refine S_nrm [.inr (24, 0), .inl (.int x1), .inl (.int x2), .inl (.int (x3 + (1 : Int32)))] rfl ?_
        exact hrc x1 x2 (x3 + (1 : Int32)) h2
      · refine S_grd 5 (27, [.inr (24, 0), .inl (.int x1), .inl (.int x2), .inl (.int x3)], [.inl (.int (h2.1 16 0 x3.toNatClampNeg))], h2) rfl (fun _ => ?_)
        refine S_br 3 30 32 [.inr (24, 0), .inl (.int x1), .inl (.int x2), .inl (.int x3)] [] h2 rfl (fun _ => ?_) (fun _ => ?_)
        · exact S_ri 1 (31, [av0, av0, av0, .inl (.int x3)], [.inl (.int x3)], h2) rfl rfl
        · refine S_blk 2 (5, [.inr (24, 0), .inl (.int x1), .inl (.int x2), .inl (.int (x3 + (1 : Int32)))], [], h2) rfl ?_
          refine S_nrm [.inr (24, 0), .inl (.int x1), .inl (.int x2), .inl (.int (x3 + (1 : Int32)))] rfl ?_
          exact hrc x1 x2 (x3 + (1 : Int32)) h2
    · refine S_blk 2 (5, [.inr (24, 0), .inl (.int x1), .inl (.int x2), .inl (.int (x3 + (1 : Int32)))], [], h) rfl ?_
      refine S_nrm [.inr (24, 0), .inl (.int x1), .inl (.int x2), .inl (.int (x3 + (1 : Int32)))] rfl ?_
      exact hrc x1 x2 (x3 + (1 : Int32)) h
theorem sl_X1_safeReason_5     : ∀ (F : Nat) (x1 : Int32) (x2 : Int32) (x3 : Int32) (h : AH), Sim PP (4) k_X1_safeReason (5, [.inr (24, 0), .inl (.int x1), .inl (.int x2), .inl (.int x3)], [], h) (l_X1_safeReason_5 F x1 x2 x3 h) fI := by
  intro F
  induction F with
  | zero => intro x1 x2 x3 h; exact S_none
  | succ F ih => intro x1 x2 x3 h; exact sb_X1_safeReason_5 (l_X1_safeReason_5 F) x1 x2 x3 ih h
theorem s_X1_safeReason (x1 : Int32) (h : AH) : Sim PP (4) k_X1_safeReason (0, [.inr (24, 0), .inl (.int x1), av0, av0], [], h) (f_X1_safeReason x1 h) fI := by
  unfold f_X1_safeReason
  refine S_di 1 1 14 3 [.inr (24, 0), .inl (.int x1), av0, av0] [.inr (24, 0)] [.inr (24, 0), av0, av0, av0, av0, av0] [.inr (24, 0), .inl (.int x1), av0, av0] [] h rfl rfl pp_14 (by decide) (s_X1_losingBits  h) (fun y1 h2 => ?_)
  refine S_blk 3 (5, [.inr (24, 0), .inl (.int x1), .inl (.int y1), .inl (.int (0 : Int32))], [], h2) rfl ?_
  refine S_nrm [.inr (24, 0), .inl (.int x1), .inl (.int y1), .inl (.int (0 : Int32))] rfl ?_
  exact (sl_X1_safeReason_5  FU x1 y1 (0 : Int32) h2)
theorem s_X11_never (x1 : Int32) (h : AH) : Sim PP (5) k_X11_never (0, [.inr (0, 0), .inl (.int x1)], [], h) (f_X11_never x1 h) fI := by
  unfold f_X11_never
  refine S_di 2 2 136 0 [.inr (0, 0), .inl (.int x1)] [.inl (.int x1), .inr (0, 0)] [.inr (0, 0), .inl (.int x1)] [.inr (0, 0), .inl (.int x1)] [] h rfl rfl pp_136 (by decide) (s_X11_isClaim x1 h) (fun y1 h2 => ?_)
  refine S_br 1 9 4 [.inr (0, 0), .inl (.int x1)] [] h2 rfl (fun _ => ?_) (fun _ => ?_)
  · exact S_ri 1 (10, [.inr (0, 0), .inl (.int x1)], [.inl (.int (-1 : Int32))], h2) rfl rfl
  · refine S_di 3 7 17 4 [.inr (0, 0), .inl (.int x1)] [.inl (.int x1), .inr (24, 0)] [.inr (24, 0), .inl (.int x1), av0, av0] [.inr (0, 0), .inl (.int x1)] [] h2 rfl rfl pp_17 (by decide) (s_X1_safeReason x1 h2) (fun y3 h4 => ?_)
    exact S_ri 1 (10, [.inr (0, 0), .inl (.int x1)], [.inl (.int y3)], h4) rfl rfl
theorem sb_X12_never_15  (rc : Int32 → Int32 → Int32 → AH → Option (Int32 × AH)) (x1 : Int32) (x2 : Int32) (x3 : Int32) (hrc : ∀ (x2 : Int32) (x3 : Int32) (h : AH), Sim PP (4) k_X12_never (15, [.inr (34, 0), .inl (.int x1), .inl (.int x2), .inl (.int x3)], [], h) (rc x1 x2 x3 h) (fE PP (4) k_X12_never 37 (fun v => [av0, av0, .inl (.int v), av0])))  (h : AH) : Sim PP (4) k_X12_never (15, [.inr (34, 0), .inl (.int x1), .inl (.int x2), .inl (.int x3)], [], h) (b_X12_never_15 rc x1 x2 x3 h) (fE PP (4) k_X12_never 37 (fun v => [av0, av0, .inl (.int v), av0])) := by
  unfold b_X12_never_15
  refine S_br 2 37 17 [.inr (34, 0), .inl (.int x1), .inl (.int x2), .inl (.int x3)] [] h rfl (fun _ => ?_) (fun _ => ?_)
  · exact S_ex x2 (fun v => [av0, av0, .inl (.int v), av0]) rfl
  · refine S_grd 4 (21, [.inr (34, 0), .inl (.int x1), .inl (.int x2), .inl (.int x3)], [.inl (.int (h.1 42 0 x3.toNatClampNeg))], h) rfl (fun _ => ?_)
    refine S_br 2 23 33 [.inr (34, 0), .inl (.int x1), .inl (.int x2), .inl (.int x3)] [] h rfl (fun _ => ?_) (fun _ => ?_)
    · refine S_di 2 25 197 0 [.inr (34, 0), .inl (.int x1), .inl (.int x2), .inl (.int x3)] [.inl (.int x3), .inr (34, 0)] [.inr (34, 0), .inl (.int x3)] [.inr (34, 0), .inl (.int x1), .inl (.int x2), .inl (.int x3)] [] h rfl rfl pp_197 (by decide) (s_X12_isUsable x3 h) (fun y1 h2 => ?_)
      refine S_br 1 33 27 [.inr (34, 0), .inl (.int x1), .inl (.int x2), .inl (.int x3)] [] h2 rfl (fun _ => ?_) (fun _ => ?_)
      · refine S_blk 4 (15, [.inr (34, 0), .inl (.int x1), .inl (.int x2), .inl (.int (x3 + (-1 : Int32)))], [], h2) rfl ?_
        refine S_nrm [.inr (34, 0), .inl (.int x1), .inl (.int x2), .inl (.int (x3 + (-1 : Int32)))] rfl ?_
        exact hrc x2 (x3 + (-1 : Int32)) h2
      · refine S_di 2 29 244 1 [.inr (34, 0), .inl (.int x1), .inl (.int x2), .inl (.int x3)] [.inl (.int x3), .inr (34, 0)] [.inr (34, 0), .inl (.int x3), av0, av0] [.inr (34, 0), .inl (.int x1), .inl (.int x2), .inl (.int x3)] [] h2 rfl rfl pp_244 (by decide) (s_X12_hasLost x3 h2) (fun y3 h4 => ?_)
        refine S_br 1 31 33 [.inr (34, 0), .inl (.int x1), .inl (.int x2), .inl (.int x3)] [] h4 rfl (fun _ => ?_) (fun _ => ?_)
        · refine S_blk 5 (15, [.inr (34, 0), .inl (.int x1), .inl (.int x3), .inl (.int (x3 + (-1 : Int32)))], [], h4) rfl ?_
          refine S_nrm [.inr (34, 0), .inl (.int x1), .inl (.int x3), .inl (.int (x3 + (-1 : Int32)))] rfl ?_
          exact hrc x3 (x3 + (-1 : Int32)) h4
        · refine S_blk 4 (15, [.inr (34, 0), .inl (.int x1), .inl (.int x2), .inl (.int (x3 + (-1 : Int32)))], [], h4) rfl ?_
          refine S_nrm [.inr (34, 0), .inl (.int x1), .inl (.int x2), .inl (.int (x3 + (-1 : Int32)))] rfl ?_
          exact hrc x2 (x3 + (-1 : Int32)) h4
    · refine S_blk 4 (15, [.inr (34, 0), .inl (.int x1), .inl (.int x2), .inl (.int (x3 + (-1 : Int32)))], [], h) rfl ?_
      refine S_nrm [.inr (34, 0), .inl (.int x1), .inl (.int x2), .inl (.int (x3 + (-1 : Int32)))] rfl ?_
      exact hrc x2 (x3 + (-1 : Int32)) h
theorem sl_X12_never_15    (x1 : Int32) : ∀ (F : Nat) (x2 : Int32) (x3 : Int32) (h : AH), Sim PP (4) k_X12_never (15, [.inr (34, 0), .inl (.int x1), .inl (.int x2), .inl (.int x3)], [], h) (l_X12_never_15 F x1 x2 x3 h) (fE PP (4) k_X12_never 37 (fun v => [av0, av0, .inl (.int v), av0])) := by
  intro F
  induction F with
  | zero => intro x2 x3 h; exact S_none
  | succ F ih => intro x2 x3 h; exact sb_X12_never_15 (l_X12_never_15 F) x1 x2 x3 ih h
theorem sc_X12_never_37    (x2 : Int32)  (h : AH) : Sim PP (4) k_X12_never (37, [av0, av0, .inl (.int x2), av0], [], h) (c_X12_never_37  x2 h) fI := by
  unfold c_X12_never_37
  exact S_ri 1 (38, [av0, av0, .inl (.int x2), av0], [.inl (.int x2)], h) rfl rfl
theorem s_X12_never (x1 : Int32) (h : AH) : Sim PP (4) k_X12_never (0, [.inr (34, 0), .inl (.int x1), av0, av0], [], h) (f_X12_never x1 h) fI := by
  unfold f_X12_never
  refine S_di 2 2 189 1 [.inr (34, 0), .inl (.int x1), av0, av0] [.inl (.int x1), .inr (34, 0)] [.inr (34, 0), .inl (.int x1)] [.inr (34, 0), .inl (.int x1), av0, av0] [] h rfl rfl pp_189 (by decide) (s_X12_isClaim x1 h) (fun y1 h2 => ?_)
  refine S_br 1 4 6 [.inr (34, 0), .inl (.int x1), av0, av0] [] h2 rfl (fun _ => ?_) (fun _ => ?_)
  · exact S_ri 1 (5, [.inr (34, 0), .inl (.int x1), av0, av0], [.inl (.int (-1 : Int32))], h2) rfl rfl
  · refine S_dv 1 7 242 3 [.inr (34, 0), .inl (.int x1), av0, av0] [.inr (34, 0)] [.inr (34, 0), av0, av0] [.inr (34, 0), .inl (.int x1), av0, av0] [] h2 rfl rfl pp_242 (by decide) (s_X12_layLoss  h2) (fun _ h4 => ?_)
    refine S_blk 7 (15, [.inr (34, 0), .inl (.int x1), .inl (.int (-9 : Int32)), .inl (.int ((h4.1 34 0 11) - (1 : Int32)))], [], h4) rfl ?_
    refine S_nrm [.inr (34, 0), .inl (.int x1), .inl (.int (-9 : Int32)), .inl (.int ((h4.1 34 0 11) - (1 : Int32)))] rfl ?_
    refine S_lp 37 (fun v => [av0, av0, .inl (.int v), av0]) (sl_X12_never_15 x1 FU (-9 : Int32) ((h4.1 34 0 11) - (1 : Int32)) h4) (fun v h => ?_)
    exact sc_X12_never_37 v h
theorem s_X1_answersToLoss (x1 : Int32) (h : AH) : Sim PP (4) k_X1_answersToLoss (0, [.inr (24, 0), .inl (.int x1)], [], h) (f_X1_answersToLoss x1 h) fI := by
  unfold f_X1_answersToLoss
  refine S_di 1 1 14 3 [.inr (24, 0), .inl (.int x1)] [.inr (24, 0)] [.inr (24, 0), av0, av0, av0, av0, av0] [.inr (24, 0), .inl (.int x1)] [] h rfl rfl pp_14 (by decide) (s_X1_losingBits  h) (fun y1 h2 => ?_)
  refine S_grd 5 (7, [.inr (24, 0), .inl (.int x1)], [.inl (.int (h2.1 25 0 x1.toNatClampNeg))], h2) rfl (fun _ => ?_)
  exact S_ri 0 (7, [.inr (24, 0), .inl (.int x1)], [.inl (.int (h2.1 25 0 x1.toNatClampNeg))], h2) rfl rfl
theorem s_X11_game (x1 : Int32) (h : AH) : Sim PP (5) k_X11_game (0, [.inr (0, 0), .inl (.int x1)], [], h) (f_X11_game x1 h) fI := by
  unfold f_X11_game
  refine S_di 2 2 136 0 [.inr (0, 0), .inl (.int x1)] [.inl (.int x1), .inr (0, 0)] [.inr (0, 0), .inl (.int x1)] [.inr (0, 0), .inl (.int x1)] [] h rfl rfl pp_136 (by decide) (s_X11_isClaim x1 h) (fun y1 h2 => ?_)
  refine S_br 1 9 4 [.inr (0, 0), .inl (.int x1)] [] h2 rfl (fun _ => ?_) (fun _ => ?_)
  · exact S_ri 1 (10, [.inr (0, 0), .inl (.int x1)], [.inl (.int (-1 : Int32))], h2) rfl rfl
  · refine S_di 3 7 16 4 [.inr (0, 0), .inl (.int x1)] [.inl (.int x1), .inr (24, 0)] [.inr (24, 0), .inl (.int x1)] [.inr (0, 0), .inl (.int x1)] [] h2 rfl rfl pp_16 (by decide) (s_X1_answersToLoss x1 h2) (fun y3 h4 => ?_)
    exact S_ri 1 (10, [.inr (0, 0), .inl (.int x1)], [.inl (.int y3)], h4) rfl rfl
theorem s_X12_game (x1 : Int32) (h : AH) : Sim PP (4) k_X12_game (0, [.inr (34, 0), .inl (.int x1)], [], h) (f_X12_game x1 h) fI := by
  unfold f_X12_game
  refine S_di 2 2 189 1 [.inr (34, 0), .inl (.int x1)] [.inl (.int x1), .inr (34, 0)] [.inr (34, 0), .inl (.int x1)] [.inr (34, 0), .inl (.int x1)] [] h rfl rfl pp_189 (by decide) (s_X12_isClaim x1 h) (fun y1 h2 => ?_)
  refine S_br 1 4 6 [.inr (34, 0), .inl (.int x1)] [] h2 rfl (fun _ => ?_) (fun _ => ?_)
  · exact S_ri 1 (5, [.inr (34, 0), .inl (.int x1)], [.inl (.int (-1 : Int32))], h2) rfl rfl
  · refine S_dv 1 7 242 3 [.inr (34, 0), .inl (.int x1)] [.inr (34, 0)] [.inr (34, 0), av0, av0] [.inr (34, 0), .inl (.int x1)] [] h2 rfl rfl pp_242 (by decide) (s_X12_layLoss  h2) (fun _ h4 => ?_)
    refine S_grd 4 (12, [.inr (34, 0), .inl (.int x1)], [.inl (.int (h4.1 55 0 x1.toNatClampNeg))], h4) rfl (fun _ => ?_)
    exact S_ri 0 (12, [.inr (34, 0), .inl (.int x1)], [.inl (.int (h4.1 55 0 x1.toNatClampNeg))], h4) rfl rfl
theorem s_X3_nextSubset (x0 : Int32) (x1 : Int32) (h : AH) : Sim PP (0) k_X3_nextSubset (0, [.inl (.int x0), .inl (.int x1)], [], h) (f_X3_nextSubset x0 x1 h) fI := by
  unfold f_X3_nextSubset
  exact S_ri 5 (5, [.inl (.int x0), .inl (.int x1)], [.inl (.int ((x0 - x1) &&& x1))], h) rfl rfl
theorem sb_X3_wordsFor_28  (rc : Int32 → Int32 → Int32 → Int32 → Int32 → Int32 → AH → Option (Int32 × AH)) (x1 : Int32) (x2 : Int32) (x3 : Int32) (x4 : Int32) (x5 : Int32) (x6 : Int32) (hrc : ∀ (x1 : Int32) (x2 : Int32) (x3 : Int32) (x4 : Int32) (x5 : Int32) (x6 : Int32) (h : AH), Sim PP (4) k_X3_wordsFor (28, [.inr (26, 0), .inl (.int x1), .inl (.int x2), .inl (.int x3), .inl (.int x4), .inl (.int x5), .inl (.int x6)], [], h) (rc x1 x2 x3 x4 x5 x6 h) fI)  (h : AH) : Sim PP (4) k_X3_wordsFor (28, [.inr (26, 0), .inl (.int x1), .inl (.int x2), .inl (.int x3), .inl (.int x4), .inl (.int x5), .inl (.int x6)], [], h) (b_X3_wordsFor_28 rc x1 x2 x3 x4 x5 x6 h) fI := by
  unfold b_X3_wordsFor_28
  refine S_br 3 64 31 [.inr (26, 0), .inl (.int x1), .inl (.int x2), .inl (.int x3), .inl (.int x4), .inl (.int x5), .inl (.int x6)] [] h rfl (fun _ => ?_) (fun _ => ?_)
  · exact S_ri 1 (65, [av0, av0, av0, av0, .inl (.int x4), av0, av0], [.inl (.int x4)], h) rfl rfl
  · refine S_di 1 32 271 0 [.inr (26, 0), .inl (.int x1), .inl (.int x2), .inl (.int x3), .inl (.int x4), .inl (.int x5), .inl (.int x6)] [.inl (.int x5)] [.inl (.int x5)] [.inr (26, 0), .inl (.int x1), .inl (.int x2), .inl (.int x3), .inl (.int x4), .inl (.int x5), .inl (.int x6)] [] h rfl rfl pp_271 (by decide) (s_J6_bitCount_0f7a4 x5 h) (fun y1 h2 => ?_)
    refine S_di 1 34 271 0 [.inr (26, 0), .inl (.int x1), .inl (.int x2), .inl (.int x3), .inl (.int x4), .inl (.int x5), .inl (.int x6)] [.inl (.int x4), .inl (.int y1)] [.inl (.int x4)] [.inr (26, 0), .inl (.int x1), .inl (.int x2), .inl (.int x3), .inl (.int x4), .inl (.int x5), .inl (.int x6)] [.inl (.int y1)] h2 rfl rfl pp_271 (by decide) (s_J6_bitCount_0f7a4 x4 h2) (fun y3 h4 => ?_)
    refine S_br 1 54 36 [.inr (26, 0), .inl (.int x1), .inl (.int x2), .inl (.int x3), .inl (.int x4), .inl (.int x5), .inl (.int x6)] [] h4 rfl (fun _ => ?_) (fun _ => ?_)
    · refine S_br 3 57 58 [.inr (26, 0), .inl (.int x1), .inl (.int x2), .inl (.int x3), .inl (.int x4), .inl (.int x5), .inl (.int x6)] [] h4 rfl (fun _ => ?_) (fun _ => ?_)
      · exact S_ri 2 (65, [av0, av0, av0, av0, .inl (.int x4), av0, av0], [.inl (.int x4)], h4) rfl rfl
      · refine S_di 2 60 30 0 [.inr (26, 0), .inl (.int x1), .inl (.int x2), .inl (.int x3), .inl (.int x4), .inl (.int x5), .inl (.int x6)] [.inl (.int x3), .inl (.int x5)] [.inl (.int x5), .inl (.int x3)] [.inr (26, 0), .inl (.int x1), .inl (.int x2), .inl (.int x3), .inl (.int x4), .inl (.int x5), .inl (.int x6)] [] h4 rfl rfl pp_30 (by decide) (s_X3_nextSubset x5 x3 h4) (fun y5 h6 => ?_)
        refine S_blk 3 (28, [.inr (26, 0), .inl (.int x1), .inl (.int x2), .inl (.int x3), .inl (.int x4), .inl (.int y5), .inl (.int (x6 + (1 : Int32)))], [], h6) rfl ?_
        refine S_nrm [.inr (26, 0), .inl (.int x1), .inl (.int x2), .inl (.int x3), .inl (.int x4), .inl (.int y5), .inl (.int (x6 + (1 : Int32)))] rfl ?_
        exact hrc x1 x2 x3 x4 y5 (x6 + (1 : Int32)) h6
    · refine S_di 12 48 8 2 [.inr (26, 0), .inl (.int x1), .inl (.int x2), .inl (.int x3), .inl (.int x4), .inl (.int x5), .inl (.int x6)] [.inl (.int (-1 : Int32)), .inl (.int ((h4.1 8 3 3) ||| (x2 &&& (x5 ^^^ (-1 : Int32))))), .inr (18, 0)] [.inr (18, 0), .inl (.int ((h4.1 8 3 3) ||| (x2 &&& (x5 ^^^ (-1 : Int32))))), .inl (.int (-1 : Int32)), av0, av0, av0, av0, av0, av0] [.inr (26, 0), .inl (.int x1), .inl (.int x2), .inl (.int x3), .inl (.int x4), .inl (.int x5), .inl (.int x6)] [] h4 rfl rfl pp_8 (by decide) (s_X0_standingBy ((h4.1 8 3 3) ||| (x2 &&& (x5 ^^^ (-1 : Int32)))) (-1 : Int32) h4) (fun y7 h8 => ?_)
      refine S_di 1 50 138 0 [.inr (26, 0), .inl (.int x1), .inl (.int x2), .inl (.int x3), .inl (.int x4), .inl (.int x5), .inl (.int x6)] [.inl (.int x1), .inl (.int y7)] [.inl (.int y7), .inl (.int x1)] [.inr (26, 0), .inl (.int x1), .inl (.int x2), .inl (.int x3), .inl (.int x4), .inl (.int x5), .inl (.int x6)] [] h8 rfl rfl pp_138 (by decide) (s_X11_has y7 x1 h8) (fun y9 h10 => ?_)
      refine S_br 1 54 52 [.inr (26, 0), .inl (.int x1), .inl (.int x2), .inl (.int x3), .inl (.int x4), .inl (.int x5), .inl (.int x6)] [] h10 rfl (fun _ => ?_) (fun _ => ?_)
      · refine S_br 3 57 58 [.inr (26, 0), .inl (.int x1), .inl (.int x2), .inl (.int x3), .inl (.int x4), .inl (.int x5), .inl (.int x6)] [] h10 rfl (fun _ => ?_) (fun _ => ?_)
        · exact S_ri 2 (65, [av0, av0, av0, av0, .inl (.int x4), av0, av0], [.inl (.int x4)], h10) rfl rfl
        · refine S_di 2 60 30 0 [.inr (26, 0), .inl (.int x1), .inl (.int x2), .inl (.int x3), .inl (.int x4), .inl (.int x5), .inl (.int x6)] [.inl (.int x3), .inl (.int x5)] [.inl (.int x5), .inl (.int x3)] [.inr (26, 0), .inl (.int x1), .inl (.int x2), .inl (.int x3), .inl (.int x4), .inl (.int x5), .inl (.int x6)] [] h10 rfl rfl pp_30 (by decide) (s_X3_nextSubset x5 x3 h10) (fun y11 h12 => ?_)
          refine S_blk 3 (28, [.inr (26, 0), .inl (.int x1), .inl (.int x2), .inl (.int x3), .inl (.int x4), .inl (.int y11), .inl (.int (x6 + (1 : Int32)))], [], h12) rfl ?_
          refine S_nrm [.inr (26, 0), .inl (.int x1), .inl (.int x2), .inl (.int x3), .inl (.int x4), .inl (.int y11), .inl (.int (x6 + (1 : Int32)))] rfl ?_
          exact hrc x1 x2 x3 x4 y11 (x6 + (1 : Int32)) h12
      · refine S_br 5 57 58 [.inr (26, 0), .inl (.int x1), .inl (.int x2), .inl (.int x3), .inl (.int x5), .inl (.int x5), .inl (.int x6)] [] h10 rfl (fun _ => ?_) (fun _ => ?_)
        · exact S_ri 2 (65, [av0, av0, av0, av0, .inl (.int x5), av0, av0], [.inl (.int x5)], h10) rfl rfl
        · refine S_di 2 60 30 0 [.inr (26, 0), .inl (.int x1), .inl (.int x2), .inl (.int x3), .inl (.int x5), .inl (.int x5), .inl (.int x6)] [.inl (.int x3), .inl (.int x5)] [.inl (.int x5), .inl (.int x3)] [.inr (26, 0), .inl (.int x1), .inl (.int x2), .inl (.int x3), .inl (.int x5), .inl (.int x5), .inl (.int x6)] [] h10 rfl rfl pp_30 (by decide) (s_X3_nextSubset x5 x3 h10) (fun y13 h14 => ?_)
          refine S_blk 3 (28, [.inr (26, 0), .inl (.int x1), .inl (.int x2), .inl (.int x3), .inl (.int x5), .inl (.int y13), .inl (.int (x6 + (1 : Int32)))], [], h14) rfl ?_
          refine S_nrm [.inr (26, 0), .inl (.int x1), .inl (.int x2), .inl (.int x3), .inl (.int x5), .inl (.int y13), .inl (.int (x6 + (1 : Int32)))] rfl ?_
          exact hrc x1 x2 x3 x5 y13 (x6 + (1 : Int32)) h14
theorem sl_X3_wordsFor_28     : ∀ (F : Nat) (x1 : Int32) (x2 : Int32) (x3 : Int32) (x4 : Int32) (x5 : Int32) (x6 : Int32) (h : AH), Sim PP (4) k_X3_wordsFor (28, [.inr (26, 0), .inl (.int x1), .inl (.int x2), .inl (.int x3), .inl (.int x4), .inl (.int x5), .inl (.int x6)], [], h) (l_X3_wordsFor_28 F x1 x2 x3 x4 x5 x6 h) fI := by
  intro F
  induction F with
  | zero => intro x1 x2 x3 x4 x5 x6 h; exact S_none
  | succ F ih => intro x1 x2 x3 x4 x5 x6 h; exact sb_X3_wordsFor_28 (l_X3_wordsFor_28 F) x1 x2 x3 x4 x5 x6 ih h
theorem s_X3_wordsFor (x1 : Int32) (h : AH) : Sim PP (4) k_X3_wordsFor (0, [.inr (26, 0), .inl (.int x1), av0, av0, av0, av0, av0], [], h) (f_X3_wordsFor x1 h) fI := by
  unfold f_X3_wordsFor
  refine S_di 3 3 51 1 [.inr (26, 0), .inl (.int x1), av0, av0, av0, av0, av0] [.inl (.int (4 : Int32)), .inr (12, 0)] [.inr (12, 0), .inl (.int (4 : Int32))] [.inr (26, 0), .inl (.int x1), av0, av0, av0, av0, av0] [] h rfl rfl pp_51 (by decide) (s_X6_bitsOf 0 (4 : Int32) h) (fun y1 h2 => ?_)
  refine S_di 11 15 11 2 [.inr (26, 0), .inl (.int x1), .inl (.int (y1 &&& ((h2.1 8 3 4) ^^^ (-1 : Int32)))), av0, av0, av0, av0] [.inl (.int x1), .inr (18, 0), .inl (.int (y1 &&& ((h2.1 8 3 4) ^^^ (-1 : Int32))))] [.inr (18, 0), .inl (.int x1), av0, av0, av0, av0, av0] [.inr (26, 0), .inl (.int x1), .inl (.int (y1 &&& ((h2.1 8 3 4) ^^^ (-1 : Int32)))), av0, av0, av0, av0] [.inl (.int (y1 &&& ((h2.1 8 3 4) ^^^ (-1 : Int32))))] h2 rfl rfl pp_11 (by decide) (s_X0_reachOf x1 h2) (fun y3 h4 => ?_)
  refine S_di 3 19 7 3 [.inr (26, 0), .inl (.int x1), .inl (.int (y1 &&& ((h2.1 8 3 4) ^^^ (-1 : Int32)))), av0, av0, av0, av0] [.inr (18, 0), .inl (.int ((y1 &&& ((h2.1 8 3 4) ^^^ (-1 : Int32))) &&& y3))] [.inr (18, 0)] [.inr (26, 0), .inl (.int x1), .inl (.int (y1 &&& ((h2.1 8 3 4) ^^^ (-1 : Int32)))), av0, av0, av0, av0] [.inl (.int ((y1 &&& ((h2.1 8 3 4) ^^^ (-1 : Int32))) &&& y3))] h4 rfl rfl pp_7 (by decide) (s_X0_standing  h4) (fun y5 h6 => ?_)
  refine S_blk 8 (28, [.inr (26, 0), .inl (.int x1), .inl (.int (y1 &&& ((h2.1 8 3 4) ^^^ (-1 : Int32)))), .inl (.int (((y1 &&& ((h2.1 8 3 4) ^^^ (-1 : Int32))) &&& y3) &&& y5)), .inl (.int (((y1 &&& ((h2.1 8 3 4) ^^^ (-1 : Int32))) &&& y3) &&& y5)), .inl (.int (0 : Int32)), .inl (.int (0 : Int32))], [], h6) rfl ?_
  refine S_nrm [.inr (26, 0), .inl (.int x1), .inl (.int (y1 &&& ((h2.1 8 3 4) ^^^ (-1 : Int32)))), .inl (.int (((y1 &&& ((h2.1 8 3 4) ^^^ (-1 : Int32))) &&& y3) &&& y5)), .inl (.int (((y1 &&& ((h2.1 8 3 4) ^^^ (-1 : Int32))) &&& y3) &&& y5)), .inl (.int (0 : Int32)), .inl (.int (0 : Int32))] rfl ?_
  exact (sl_X3_wordsFor_28  FU x1 (y1 &&& ((h2.1 8 3 4) ^^^ (-1 : Int32))) (((y1 &&& ((h2.1 8 3 4) ^^^ (-1 : Int32))) &&& y3) &&& y5) (((y1 &&& ((h2.1 8 3 4) ^^^ (-1 : Int32))) &&& y3) &&& y5) (0 : Int32) (0 : Int32) h6)
theorem s_X11_words (x1 : Int32) (h : AH) : Sim PP (5) k_X11_words (0, [.inr (0, 0), .inl (.int x1)], [], h) (f_X11_words x1 h) fI := by
  unfold f_X11_words
  refine S_di 2 2 136 0 [.inr (0, 0), .inl (.int x1)] [.inl (.int x1), .inr (0, 0)] [.inr (0, 0), .inl (.int x1)] [.inr (0, 0), .inl (.int x1)] [] h rfl rfl pp_136 (by decide) (s_X11_isClaim x1 h) (fun y1 h2 => ?_)
  refine S_br 1 4 6 [.inr (0, 0), .inl (.int x1)] [] h2 rfl (fun _ => ?_) (fun _ => ?_)
  · exact S_ri 1 (5, [.inr (0, 0), .inl (.int x1)], [.inl (.int (-1 : Int32))], h2) rfl rfl
  · refine S_di 2 8 7 3 [.inr (0, 0), .inl (.int x1)] [.inr (18, 0)] [.inr (18, 0)] [.inr (0, 0), .inl (.int x1)] [] h2 rfl rfl pp_7 (by decide) (s_X0_standing  h2) (fun y3 h4 => ?_)
    refine S_di 1 10 138 0 [.inr (0, 0), .inl (.int x1)] [.inl (.int x1), .inl (.int y3)] [.inl (.int y3), .inl (.int x1)] [.inr (0, 0), .inl (.int x1)] [] h4 rfl rfl pp_138 (by decide) (s_X11_has y3 x1 h4) (fun y5 h6 => ?_)
    refine S_br 1 12 14 [.inr (0, 0), .inl (.int x1)] [] h6 rfl (fun _ => ?_) (fun _ => ?_)
    · exact S_ri 1 (13, [.inr (0, 0), .inl (.int x1)], [.inl (.int (-9 : Int32))], h6) rfl rfl
    · refine S_di 4 18 26 4 [.inr (0, 0), .inl (.int x1)] [.inl (.int x1), .inr (26, 0), .inr (0, 0)] [.inr (26, 0), .inl (.int x1), av0, av0, av0, av0, av0] [.inr (0, 0), .inl (.int x1)] [.inr (0, 0)] h6 rfl rfl pp_26 (by decide) (s_X3_wordsFor x1 h6) (fun y7 h8 => ?_)
      refine S_di 3 22 271 0 [.inr (0, 0), .inl (.int x1)] [.inl (.int ((hsI h8 0 0 14 y7).1 0 0 14))] [.inl (.int ((hsI h8 0 0 14 y7).1 0 0 14))] [.inr (0, 0), .inl (.int x1)] [] (hsI h8 0 0 14 y7) rfl rfl pp_271 (by decide) (s_J6_bitCount_0f7a4 ((hsI h8 0 0 14 y7).1 0 0 14) (hsI h8 0 0 14 y7)) (fun y9 h10 => ?_)
      exact S_ri 0 (23, [.inr (0, 0), .inl (.int x1)], [.inl (.int y9)], h10) rfl rfl
theorem sb_X12_words_17  (rc : Int32 → Int32 → Int32 → AH → Option (Int32 × AH)) (x1 : Int32) (x2 : Int32) (x3 : Int32) (hrc : ∀ (x2 : Int32) (x3 : Int32) (h : AH), Sim PP (3) k_X12_words (17, [.inr (34, 0), .inl (.int x1), .inl (.int x2), .inl (.int x3), av0, av0], [], h) (rc x1 x2 x3 h) (fE PP (3) k_X12_words 42 (fun v => [.inr (34, 0), .inl (.int x1), .inl (.int v), av0, av0, av0])))  (h : AH) : Sim PP (3) k_X12_words (17, [.inr (34, 0), .inl (.int x1), .inl (.int x2), .inl (.int x3), av0, av0], [], h) (b_X12_words_17 rc x1 x2 x3 h) (fE PP (3) k_X12_words 42 (fun v => [.inr (34, 0), .inl (.int x1), .inl (.int v), av0, av0, av0])) := by
  unfold b_X12_words_17
  refine S_br 4 42 21 [.inr (34, 0), .inl (.int x1), .inl (.int x2), .inl (.int x3), av0, av0] [] h rfl (fun _ => ?_) (fun _ => ?_)
  · exact S_ex x2 (fun v => [.inr (34, 0), .inl (.int x1), .inl (.int v), av0, av0, av0]) rfl
  · refine S_grd 5 (26, [.inr (34, 0), .inl (.int x1), .inl (.int x2), .inl (.int x3), av0, av0], [.inl (.int (h.1 41 0 x3.toNatClampNeg)), .inl (.int x2)], h) rfl (fun _ => ?_)
    refine S_br 2 28 37 [.inr (34, 0), .inl (.int x1), .inl (.int x2), .inl (.int x3), av0, av0] [.inl (.int x2)] h rfl (fun _ => ?_) (fun _ => ?_)
    · refine S_di 3 31 155 0 [.inr (34, 0), .inl (.int x1), .inl (.int x2), .inl (.int x3), av0, av0] [.inl (.int x3), .inl (.int (h.1 34 0 17)), .inl (.int x2)] [.inl (.int (h.1 34 0 17)), .inl (.int x3)] [.inr (34, 0), .inl (.int x1), .inl (.int x2), .inl (.int x3), av0, av0] [.inl (.int x2)] h rfl rfl pp_155 (by decide) (s_X12_has (h.1 34 0 17) x3 h) (fun y1 h2 => ?_)
      refine S_br 1 33 37 [.inr (34, 0), .inl (.int x1), .inl (.int x2), .inl (.int x3), av0, av0] [.inl (.int x2)] h2 rfl (fun _ => ?_) (fun _ => ?_)
      · refine S_blk 8 (17, [.inr (34, 0), .inl (.int x1), .inl (.int (x2 ||| ((1 : Int32) <<< (x3 &&& 31)))), .inl (.int (x3 + (1 : Int32))), av0, av0], [], h2) rfl ?_
        refine S_nrm [.inr (34, 0), .inl (.int x1), .inl (.int (x2 ||| ((1 : Int32) <<< (x3 &&& 31)))), .inl (.int (x3 + (1 : Int32))), av0, av0] rfl ?_
        exact hrc (x2 ||| ((1 : Int32) <<< (x3 &&& 31))) (x3 + (1 : Int32)) h2
      · refine S_blk 5 (17, [.inr (34, 0), .inl (.int x1), .inl (.int (x2 ||| (0 : Int32))), .inl (.int (x3 + (1 : Int32))), av0, av0], [], h2) rfl ?_
        refine S_nrm [.inr (34, 0), .inl (.int x1), .inl (.int (x2 ||| (0 : Int32))), .inl (.int (x3 + (1 : Int32))), av0, av0] rfl ?_
        exact hrc (x2 ||| (0 : Int32)) (x3 + (1 : Int32)) h2
    · refine S_blk 5 (17, [.inr (34, 0), .inl (.int x1), .inl (.int (x2 ||| (0 : Int32))), .inl (.int (x3 + (1 : Int32))), av0, av0], [], h) rfl ?_
      refine S_nrm [.inr (34, 0), .inl (.int x1), .inl (.int (x2 ||| (0 : Int32))), .inl (.int (x3 + (1 : Int32))), av0, av0] rfl ?_
      exact hrc (x2 ||| (0 : Int32)) (x3 + (1 : Int32)) h
theorem sl_X12_words_17    (x1 : Int32) : ∀ (F : Nat) (x2 : Int32) (x3 : Int32) (h : AH), Sim PP (3) k_X12_words (17, [.inr (34, 0), .inl (.int x1), .inl (.int x2), .inl (.int x3), av0, av0], [], h) (l_X12_words_17 F x1 x2 x3 h) (fE PP (3) k_X12_words 42 (fun v => [.inr (34, 0), .inl (.int x1), .inl (.int v), av0, av0, av0])) := by
  intro F
  induction F with
  | zero => intro x2 x3 h; exact S_none
  | succ F ih => intro x2 x3 h; exact sb_X12_words_17 (l_X12_words_17 F) x1 x2 x3 ih h
theorem sb_X12_words_46  (rc : Int32 → Int32 → Int32 → Int32 → AH → Option (Int32 × AH)) (x1 : Int32) (x2 : Int32) (x3 : Int32) (x4 : Int32) (hrc : ∀ (x3 : Int32) (x4 : Int32) (h : AH), Sim PP (3) k_X12_words (46, [.inr (34, 0), .inl (.int x1), .inl (.int x2), .inl (.int x3), .inl (.int x4), av0], [], h) (rc x1 x2 x3 x4 h) (fE PP (3) k_X12_words 82 (fun v => [.inr (34, 0), av0, av0, .inl (.int v), av0, av0])))  (h : AH) : Sim PP (3) k_X12_words (46, [.inr (34, 0), .inl (.int x1), .inl (.int x2), .inl (.int x3), .inl (.int x4), av0], [], h) (b_X12_words_46 rc x1 x2 x3 x4 h) (fE PP (3) k_X12_words 82 (fun v => [.inr (34, 0), av0, av0, .inl (.int v), av0, av0])) := by
  unfold b_X12_words_46
  refine S_br 3 82 49 [.inr (34, 0), .inl (.int x1), .inl (.int x2), .inl (.int x3), .inl (.int x4), av0] [] h rfl (fun _ => ?_) (fun _ => ?_)
  · exact S_ex x3 (fun v => [.inr (34, 0), av0, av0, .inl (.int v), av0, av0]) rfl
  · refine S_br 6 55 62 [.inr (34, 0), .inl (.int x1), .inl (.int x2), .inl (.int x3), .inl (.int x4), av0] [] h rfl (fun _ => ?_) (fun _ => ?_)
    · refine S_di 1 56 156 0 [.inr (34, 0), .inl (.int x1), .inl (.int x2), .inl (.int x3), .inl (.int x4), av0] [.inl (.int x4)] [.inl (.int x4), av0, av0] [.inr (34, 0), .inl (.int x1), .inl (.int x2), .inl (.int x3), .inl (.int x4), av0] [] h rfl rfl pp_156 (by decide) (s_X12_bits x4 h) (fun y1 h2 => ?_)
      refine S_di 1 58 156 0 [.inr (34, 0), .inl (.int x1), .inl (.int x2), .inl (.int x3), .inl (.int x4), av0] [.inl (.int x3), .inl (.int y1)] [.inl (.int x3), av0, av0] [.inr (34, 0), .inl (.int x1), .inl (.int x2), .inl (.int x3), .inl (.int x4), av0] [.inl (.int y1)] h2 rfl rfl pp_156 (by decide) (s_X12_bits x3 h2) (fun y3 h4 => ?_)
      refine S_br 1 62 60 [.inr (34, 0), .inl (.int x1), .inl (.int x2), .inl (.int x3), .inl (.int x4), av0] [] h4 rfl (fun _ => ?_) (fun _ => ?_)
      · refine S_bt 4 (c := (0 : Int32) = 0) 78 66 [.inr (34, 0), .inl (.int x1), .inl (.int x2), .inl (.int x3), .inl (.int x4), .inl (.int (0 : Int32))] [] h4 rfl (by decide) ?_
        refine S_blk 4 (46, [.inr (34, 0), .inl (.int x1), .inl (.int x2), .inl (.int x3), .inl (.int (x4 + (1 : Int32))), .inl (.int (0 : Int32))], [], h4) rfl ?_
        refine S_nrm [.inr (34, 0), .inl (.int x1), .inl (.int x2), .inl (.int x3), .inl (.int (x4 + (1 : Int32))), av0] rfl ?_
        exact hrc x3 (x4 + (1 : Int32)) h4
      · refine S_bf 5 (c := (1 : Int32) = 0) 78 66 [.inr (34, 0), .inl (.int x1), .inl (.int x2), .inl (.int x3), .inl (.int x4), .inl (.int (1 : Int32))] [] h4 rfl (by decide) ?_
        refine S_di 6 72 203 2 [.inr (34, 0), .inl (.int x1), .inl (.int x2), .inl (.int x3), .inl (.int x4), .inl (.int (1 : Int32))] [.inl (.int (x2 &&& (x4 ^^^ (-1 : Int32)))), .inr (34, 0)] [.inr (34, 0), .inl (.int (x2 &&& (x4 ^^^ (-1 : Int32))))] [.inr (34, 0), .inl (.int x1), .inl (.int x2), .inl (.int x3), .inl (.int x4), .inl (.int (1 : Int32))] [] h4 rfl rfl pp_203 (by decide) (s_X12_standWithout (x2 &&& (x4 ^^^ (-1 : Int32))) h4) (fun y5 h6 => ?_)
        refine S_di 1 74 155 0 [.inr (34, 0), .inl (.int x1), .inl (.int x2), .inl (.int x3), .inl (.int x4), .inl (.int (1 : Int32))] [.inl (.int x1), .inl (.int y5)] [.inl (.int y5), .inl (.int x1)] [.inr (34, 0), .inl (.int x1), .inl (.int x2), .inl (.int x3), .inl (.int x4), .inl (.int (1 : Int32))] [] h6 rfl rfl pp_155 (by decide) (s_X12_has y5 x1 h6) (fun y7 h8 => ?_)
        refine S_br 1 78 76 [.inr (34, 0), .inl (.int x1), .inl (.int x2), .inl (.int x3), .inl (.int x4), .inl (.int (1 : Int32))] [] h8 rfl (fun _ => ?_) (fun _ => ?_)
        · refine S_blk 4 (46, [.inr (34, 0), .inl (.int x1), .inl (.int x2), .inl (.int x3), .inl (.int (x4 + (1 : Int32))), .inl (.int (1 : Int32))], [], h8) rfl ?_
          refine S_nrm [.inr (34, 0), .inl (.int x1), .inl (.int x2), .inl (.int x3), .inl (.int (x4 + (1 : Int32))), av0] rfl ?_
          exact hrc x3 (x4 + (1 : Int32)) h8
        · refine S_blk 5 (46, [.inr (34, 0), .inl (.int x1), .inl (.int x2), .inl (.int x4), .inl (.int (x4 + (1 : Int32))), .inl (.int (1 : Int32))], [], h8) rfl ?_
          refine S_nrm [.inr (34, 0), .inl (.int x1), .inl (.int x2), .inl (.int x4), .inl (.int (x4 + (1 : Int32))), av0] rfl ?_
          exact hrc x4 (x4 + (1 : Int32)) h8
    · refine S_bt 4 (c := (0 : Int32) = 0) 78 66 [.inr (34, 0), .inl (.int x1), .inl (.int x2), .inl (.int x3), .inl (.int x4), .inl (.int (0 : Int32))] [] h rfl (by decide) ?_
      refine S_blk 4 (46, [.inr (34, 0), .inl (.int x1), .inl (.int x2), .inl (.int x3), .inl (.int (x4 + (1 : Int32))), .inl (.int (0 : Int32))], [], h) rfl ?_
      refine S_nrm [.inr (34, 0), .inl (.int x1), .inl (.int x2), .inl (.int x3), .inl (.int (x4 + (1 : Int32))), av0] rfl ?_
      exact hrc x3 (x4 + (1 : Int32)) h
theorem sl_X12_words_46    (x1 : Int32) (x2 : Int32) : ∀ (F : Nat) (x3 : Int32) (x4 : Int32) (h : AH), Sim PP (3) k_X12_words (46, [.inr (34, 0), .inl (.int x1), .inl (.int x2), .inl (.int x3), .inl (.int x4), av0], [], h) (l_X12_words_46 F x1 x2 x3 x4 h) (fE PP (3) k_X12_words 82 (fun v => [.inr (34, 0), av0, av0, .inl (.int v), av0, av0])) := by
  intro F
  induction F with
  | zero => intro x3 x4 h; exact S_none
  | succ F ih => intro x3 x4 h; exact sb_X12_words_46 (l_X12_words_46 F) x1 x2 x3 x4 ih h
theorem sc_X12_words_82    (x3 : Int32)  (h : AH) : Sim PP (3) k_X12_words (82, [.inr (34, 0), av0, av0, .inl (.int x3), av0, av0], [], h) (c_X12_words_82  x3 h) fI := by
  unfold c_X12_words_82
  refine S_di 3 85 156 0 [.inr (34, 0), av0, av0, .inl (.int x3), av0, av0] [.inl (.int x3), .inl (.int x3), .inr (34, 0)] [.inl (.int x3), av0, av0] [.inr (34, 0), av0, av0, .inl (.int x3), av0, av0] [.inl (.int x3), .inr (34, 0)] h rfl rfl pp_156 (by decide) (s_X12_bits x3 h) (fun y1 h2 => ?_)
  refine S_di 0 86 162 0 [.inr (34, 0), av0, av0, .inl (.int x3), av0, av0] [.inl (.int y1), .inl (.int x3), .inr (34, 0)] [.inr (34, 0), .inl (.int x3), .inl (.int y1)] [.inr (34, 0), av0, av0, .inl (.int x3), av0, av0] [] h2 rfl rfl pp_162 (by decide) (s_X12_tells x3 y1 h2) (fun y3 h4 => ?_)
  exact S_ri 0 (87, [.inr (34, 0), av0, av0, .inl (.int x3), av0, av0], [.inl (.int y3)], h4) rfl rfl
theorem sc_X12_words_42    (x1 : Int32) (x2 : Int32)  (h : AH) : Sim PP (3) k_X12_words (42, [.inr (34, 0), .inl (.int x1), .inl (.int x2), av0, av0, av0], [], h) (c_X12_words_42  x1 x2 h) fI := by
  unfold c_X12_words_42
  refine S_blk 4 (46, [.inr (34, 0), .inl (.int x1), .inl (.int x2), .inl (.int x2), .inl (.int (0 : Int32)), av0], [], h) rfl ?_
  refine S_nrm [.inr (34, 0), .inl (.int x1), .inl (.int x2), .inl (.int x2), .inl (.int (0 : Int32)), av0] rfl ?_
  refine S_lp 82 (fun v => [.inr (34, 0), av0, av0, .inl (.int v), av0, av0]) (sl_X12_words_46 x1 x2 FU x2 (0 : Int32) h) (fun v h => ?_)
  exact sc_X12_words_82 v h
theorem s_X12_words (x1 : Int32) (h : AH) : Sim PP (3) k_X12_words (0, [.inr (34, 0), .inl (.int x1), av0, av0, av0, av0], [], h) (f_X12_words x1 h) fI := by
  unfold f_X12_words
  refine S_di 2 2 189 1 [.inr (34, 0), .inl (.int x1), av0, av0, av0, av0] [.inl (.int x1), .inr (34, 0)] [.inr (34, 0), .inl (.int x1)] [.inr (34, 0), .inl (.int x1), av0, av0, av0, av0] [] h rfl rfl pp_189 (by decide) (s_X12_isClaim x1 h) (fun y1 h2 => ?_)
  refine S_br 1 4 6 [.inr (34, 0), .inl (.int x1), av0, av0, av0, av0] [] h2 rfl (fun _ => ?_) (fun _ => ?_)
  · exact S_ri 1 (5, [.inr (34, 0), .inl (.int x1), av0, av0, av0, av0], [.inl (.int (-1 : Int32))], h2) rfl rfl
  · refine S_di 1 7 202 2 [.inr (34, 0), .inl (.int x1), av0, av0, av0, av0] [.inr (34, 0)] [.inr (34, 0)] [.inr (34, 0), .inl (.int x1), av0, av0, av0, av0] [] h2 rfl rfl pp_202 (by decide) (s_X12_standNow  h2) (fun y3 h4 => ?_)
    refine S_di 1 9 155 0 [.inr (34, 0), .inl (.int x1), av0, av0, av0, av0] [.inl (.int x1), .inl (.int y3)] [.inl (.int y3), .inl (.int x1)] [.inr (34, 0), .inl (.int x1), av0, av0, av0, av0] [] h4 rfl rfl pp_155 (by decide) (s_X12_has y3 x1 h4) (fun y5 h6 => ?_)
    refine S_br 1 11 13 [.inr (34, 0), .inl (.int x1), av0, av0, av0, av0] [] h6 rfl (fun _ => ?_) (fun _ => ?_)
    · exact S_ri 1 (12, [.inr (34, 0), .inl (.int x1), av0, av0, av0, av0], [.inl (.int (-9 : Int32))], h6) rfl rfl
    · refine S_blk 4 (17, [.inr (34, 0), .inl (.int x1), .inl (.int (0 : Int32)), .inl (.int (0 : Int32)), av0, av0], [], h6) rfl ?_
      refine S_nrm [.inr (34, 0), .inl (.int x1), .inl (.int (0 : Int32)), .inl (.int (0 : Int32)), av0, av0] rfl ?_
      refine S_lp 42 (fun v => [.inr (34, 0), .inl (.int x1), .inl (.int v), av0, av0, av0]) (sl_X12_words_17 x1 FU (0 : Int32) (0 : Int32) h6) (fun v h => ?_)
      exact sc_X12_words_42 x1 v h
theorem sb_X0_usableFor_4  (rc : Int32 → Int32 → Int32 → AH → Option (Int32 × AH)) (x1 : Int32) (x2 : Int32) (x3 : Int32) (hrc : ∀ (x2 : Int32) (x3 : Int32) (h : AH), Sim PP (2) k_X0_usableFor (4, [.inr (18, 0), .inl (.int x1), .inl (.int x2), .inl (.int x3)], [], h) (rc x1 x2 x3 h) (fE PP (2) k_X0_usableFor 30 (fun v => [av0, av0, .inl (.int v), av0])))  (h : AH) : Sim PP (2) k_X0_usableFor (4, [.inr (18, 0), .inl (.int x1), .inl (.int x2), .inl (.int x3)], [], h) (b_X0_usableFor_4 rc x1 x2 x3 h) (fE PP (2) k_X0_usableFor 30 (fun v => [av0, av0, .inl (.int v), av0])) := by
  unfold b_X0_usableFor_4
  refine S_br 5 30 9 [.inr (18, 0), .inl (.int x1), .inl (.int x2), .inl (.int x3)] [] h rfl (fun _ => ?_) (fun _ => ?_)
  · exact S_ex x2 (fun v => [av0, av0, .inl (.int v), av0]) rfl
  · refine S_grd 6 (15, [.inr (18, 0), .inl (.int x1), .inl (.int x2), .inl (.int x3)], [.inl (.int (h.1 15 0 x3.toNatClampNeg)), .inl (.int x2)], h) rfl (fun _ => ?_)
    refine S_br 2 17 25 [.inr (18, 0), .inl (.int x1), .inl (.int x2), .inl (.int x3)] [.inl (.int x2)] h rfl (fun _ => ?_) (fun _ => ?_)
    · refine S_di 2 19 0 1 [.inr (18, 0), .inl (.int x1), .inl (.int x2), .inl (.int x3)] [.inl (.int x3), .inr (18, 0), .inl (.int x2)] [.inr (18, 0), .inl (.int x3)] [.inr (18, 0), .inl (.int x1), .inl (.int x2), .inl (.int x3)] [.inl (.int x2)] h rfl rfl pp_0 (by decide) (s_X0_isUsable x3 h) (fun y1 h2 => ?_)
      refine S_br 1 25 21 [.inr (18, 0), .inl (.int x1), .inl (.int x2), .inl (.int x3)] [.inl (.int x2)] h2 rfl (fun _ => ?_) (fun _ => ?_)
      · refine S_blk 5 (4, [.inr (18, 0), .inl (.int x1), .inl (.int (x2 ||| (0 : Int32))), .inl (.int (x3 + (1 : Int32)))], [], h2) rfl ?_
        refine S_nrm [.inr (18, 0), .inl (.int x1), .inl (.int (x2 ||| (0 : Int32))), .inl (.int (x3 + (1 : Int32)))] rfl ?_
        exact hrc (x2 ||| (0 : Int32)) (x3 + (1 : Int32)) h2
      · refine S_blk 8 (4, [.inr (18, 0), .inl (.int x1), .inl (.int (x2 ||| ((1 : Int32) <<< (x3 &&& 31)))), .inl (.int (x3 + (1 : Int32)))], [], h2) rfl ?_
        refine S_nrm [.inr (18, 0), .inl (.int x1), .inl (.int (x2 ||| ((1 : Int32) <<< (x3 &&& 31)))), .inl (.int (x3 + (1 : Int32)))] rfl ?_
        exact hrc (x2 ||| ((1 : Int32) <<< (x3 &&& 31))) (x3 + (1 : Int32)) h2
    · refine S_blk 5 (4, [.inr (18, 0), .inl (.int x1), .inl (.int (x2 ||| (0 : Int32))), .inl (.int (x3 + (1 : Int32)))], [], h) rfl ?_
      refine S_nrm [.inr (18, 0), .inl (.int x1), .inl (.int (x2 ||| (0 : Int32))), .inl (.int (x3 + (1 : Int32)))] rfl ?_
      exact hrc (x2 ||| (0 : Int32)) (x3 + (1 : Int32)) h
theorem sl_X0_usableFor_4    (x1 : Int32) : ∀ (F : Nat) (x2 : Int32) (x3 : Int32) (h : AH), Sim PP (2) k_X0_usableFor (4, [.inr (18, 0), .inl (.int x1), .inl (.int x2), .inl (.int x3)], [], h) (l_X0_usableFor_4 F x1 x2 x3 h) (fE PP (2) k_X0_usableFor 30 (fun v => [av0, av0, .inl (.int v), av0])) := by
  intro F
  induction F with
  | zero => intro x2 x3 h; exact S_none
  | succ F ih => intro x2 x3 h; exact sb_X0_usableFor_4 (l_X0_usableFor_4 F) x1 x2 x3 ih h
theorem sc_X0_usableFor_30    (x2 : Int32)  (h : AH) : Sim PP (2) k_X0_usableFor (30, [av0, av0, .inl (.int x2), av0], [], h) (c_X0_usableFor_30  x2 h) fI := by
  unfold c_X0_usableFor_30
  exact S_ri 1 (31, [av0, av0, .inl (.int x2), av0], [.inl (.int x2)], h) rfl rfl
theorem s_X0_usableFor (x1 : Int32) (h : AH) : Sim PP (2) k_X0_usableFor (0, [.inr (18, 0), .inl (.int x1), av0, av0], [], h) (f_X0_usableFor x1 h) fI := by
  unfold f_X0_usableFor
  refine S_blk 4 (4, [.inr (18, 0), .inl (.int x1), .inl (.int (0 : Int32)), .inl (.int (0 : Int32))], [], h) rfl ?_
  refine S_nrm [.inr (18, 0), .inl (.int x1), .inl (.int (0 : Int32)), .inl (.int (0 : Int32))] rfl ?_
  refine S_lp 30 (fun v => [av0, av0, .inl (.int v), av0]) (sl_X0_usableFor_4 x1 FU (0 : Int32) (0 : Int32) h) (fun v h => ?_)
  exact sc_X0_usableFor_30 v h
theorem sb_X0_settledFrom_6  (rc : Int32 → Int32 → AH → Option (Int32 × AH)) (x2 : Int32) (x3 : Int32) (hrc : ∀ (x2 : Int32) (x3 : Int32) (h : AH), Sim PP (3) k_X0_settledFrom (6, [.inr (18, 0), av0, .inl (.int x2), .inl (.int x3)], [], h) (rc x2 x3 h) (fE PP (3) k_X0_settledFrom 29 (fun v => [av0, av0, .inl (.int v), av0])))  (h : AH) : Sim PP (3) k_X0_settledFrom (6, [.inr (18, 0), av0, .inl (.int x2), .inl (.int x3)], [], h) (b_X0_settledFrom_6 rc x2 x3 h) (fE PP (3) k_X0_settledFrom 29 (fun v => [av0, av0, .inl (.int v), av0])) := by
  unfold b_X0_settledFrom_6
  refine S_br 5 29 11 [.inr (18, 0), av0, .inl (.int x2), .inl (.int x3)] [] h rfl (fun _ => ?_) (fun _ => ?_)
  · exact S_ex x2 (fun v => [av0, av0, .inl (.int v), av0]) rfl
  · refine S_di 3 14 1 2 [.inr (18, 0), av0, .inl (.int x2), .inl (.int x3)] [.inl (.int x3), .inr (18, 0), .inl (.int x2)] [.inr (18, 0), .inl (.int x3), av0, av0] [.inr (18, 0), av0, .inl (.int x2), .inl (.int x3)] [.inl (.int x2)] h rfl rfl pp_1 (by decide) (s_X0_usableFor x3 h) (fun y1 h2 => ?_)
    refine S_di 0 15 271 0 [.inr (18, 0), av0, .inl (.int x2), .inl (.int x3)] [.inl (.int y1), .inl (.int x2)] [.inl (.int y1)] [.inr (18, 0), av0, .inl (.int x2), .inl (.int x3)] [.inl (.int x2)] h2 rfl rfl pp_271 (by decide) (s_J6_bitCount_0f7a4 y1 h2) (fun y3 h4 => ?_)
    refine S_br 2 24 18 [.inr (18, 0), av0, .inl (.int x2), .inl (.int x3)] [.inl (.int x2)] h4 rfl (fun _ => ?_) (fun _ => ?_)
    · refine S_blk 5 (6, [.inr (18, 0), av0, .inl (.int (x2 &&& (-1 : Int32))), .inl (.int (x3 + (1 : Int32)))], [], h4) rfl ?_
      refine S_nrm [.inr (18, 0), av0, .inl (.int (x2 &&& (-1 : Int32))), .inl (.int (x3 + (1 : Int32)))] rfl ?_
      exact hrc (x2 &&& (-1 : Int32)) (x3 + (1 : Int32)) h4
    · refine S_blk 10 (6, [.inr (18, 0), av0, .inl (.int (x2 &&& (((1 : Int32) <<< (x3 &&& 31)) ^^^ (-1 : Int32)))), .inl (.int (x3 + (1 : Int32)))], [], h4) rfl ?_
      refine S_nrm [.inr (18, 0), av0, .inl (.int (x2 &&& (((1 : Int32) <<< (x3 &&& 31)) ^^^ (-1 : Int32)))), .inl (.int (x3 + (1 : Int32)))] rfl ?_
      exact hrc (x2 &&& (((1 : Int32) <<< (x3 &&& 31)) ^^^ (-1 : Int32))) (x3 + (1 : Int32)) h4
theorem sl_X0_settledFrom_6     : ∀ (F : Nat) (x2 : Int32) (x3 : Int32) (h : AH), Sim PP (3) k_X0_settledFrom (6, [.inr (18, 0), av0, .inl (.int x2), .inl (.int x3)], [], h) (l_X0_settledFrom_6 F x2 x3 h) (fE PP (3) k_X0_settledFrom 29 (fun v => [av0, av0, .inl (.int v), av0])) := by
  intro F
  induction F with
  | zero => intro x2 x3 h; exact S_none
  | succ F ih => intro x2 x3 h; exact sb_X0_settledFrom_6 (l_X0_settledFrom_6 F) x2 x3 ih h
theorem sc_X0_settledFrom_29    (x2 : Int32)  (h : AH) : Sim PP (3) k_X0_settledFrom (29, [av0, av0, .inl (.int x2), av0], [], h) (c_X0_settledFrom_29  x2 h) fI := by
  unfold c_X0_settledFrom_29
  exact S_ri 1 (30, [av0, av0, .inl (.int x2), av0], [.inl (.int x2)], h) rfl rfl
theorem s_X0_settledFrom (x1 : Int32) (h : AH) : Sim PP (3) k_X0_settledFrom (0, [.inr (18, 0), .inl (.int x1), av0, av0], [], h) (f_X0_settledFrom x1 h) fI := by
  unfold f_X0_settledFrom
  refine S_di 2 2 11 2 [.inr (18, 0), .inl (.int x1), av0, av0] [.inl (.int x1), .inr (18, 0)] [.inr (18, 0), .inl (.int x1), av0, av0, av0, av0, av0] [.inr (18, 0), .inl (.int x1), av0, av0] [] h rfl rfl pp_11 (by decide) (s_X0_reachOf x1 h) (fun y1 h2 => ?_)
  refine S_blk 3 (6, [.inr (18, 0), .inl (.int x1), .inl (.int y1), .inl (.int (0 : Int32))], [], h2) rfl ?_
  refine S_nrm [.inr (18, 0), av0, .inl (.int y1), .inl (.int (0 : Int32))] rfl ?_
  refine S_lp 29 (fun v => [av0, av0, .inl (.int v), av0]) (sl_X0_settledFrom_6  FU y1 (0 : Int32) h2) (fun v h => ?_)
  exact sc_X0_settledFrom_29 v h
theorem s_X11_agree (x1 : Int32) (h : AH) : Sim PP (4) k_X11_agree (0, [.inr (0, 0), .inl (.int x1)], [], h) (f_X11_agree x1 h) fI := by
  unfold f_X11_agree
  refine S_di 2 2 136 0 [.inr (0, 0), .inl (.int x1)] [.inl (.int x1), .inr (0, 0)] [.inr (0, 0), .inl (.int x1)] [.inr (0, 0), .inl (.int x1)] [] h rfl rfl pp_136 (by decide) (s_X11_isClaim x1 h) (fun y1 h2 => ?_)
  refine S_br 1 9 4 [.inr (0, 0), .inl (.int x1)] [] h2 rfl (fun _ => ?_) (fun _ => ?_)
  · exact S_ri 1 (10, [.inr (0, 0), .inl (.int x1)], [.inl (.int (-1 : Int32))], h2) rfl rfl
  · refine S_di 3 7 12 3 [.inr (0, 0), .inl (.int x1)] [.inl (.int x1), .inr (18, 0)] [.inr (18, 0), .inl (.int x1), av0, av0] [.inr (0, 0), .inl (.int x1)] [] h2 rfl rfl pp_12 (by decide) (s_X0_settledFrom x1 h2) (fun y3 h4 => ?_)
    exact S_ri 1 (10, [.inr (0, 0), .inl (.int x1)], [.inl (.int y3)], h4) rfl rfl
theorem sb_X12_comesTo_13  (rc : Int32 → Int32 → Int32 → AH → Option (Int32 × AH)) (x2 : Int32) (x3 : Int32) (x4 : Int32) (hrc : ∀ (x2 : Int32) (x4 : Int32) (h : AH), Sim PP (2) k_X12_comesTo (13, [.inr (34, 0), av0, .inl (.int x2), .inl (.int x3), .inl (.int x4)], [], h) (rc x2 x3 x4 h) (fE PP (2) k_X12_comesTo 31 (fun v => [.inr (34, 0), av0, .inl (.int v), .inl (.int x3), av0])))  (h : AH) : Sim PP (2) k_X12_comesTo (13, [.inr (34, 0), av0, .inl (.int x2), .inl (.int x3), .inl (.int x4)], [], h) (b_X12_comesTo_13 rc x2 x3 x4 h) (fE PP (2) k_X12_comesTo 31 (fun v => [.inr (34, 0), av0, .inl (.int v), .inl (.int x3), av0])) := by
  unfold b_X12_comesTo_13
  refine S_br 4 31 17 [.inr (34, 0), av0, .inl (.int x2), .inl (.int x3), .inl (.int x4)] [] h rfl (fun _ => ?_) (fun _ => ?_)
  · exact S_ex x2 (fun v => [.inr (34, 0), av0, .inl (.int v), .inl (.int x3), av0]) rfl
  · refine S_di 3 20 155 0 [.inr (34, 0), av0, .inl (.int x2), .inl (.int x3), .inl (.int x4)] [.inl (.int x4), .inl (.int x3), .inl (.int x2)] [.inl (.int x3), .inl (.int x4)] [.inr (34, 0), av0, .inl (.int x2), .inl (.int x3), .inl (.int x4)] [.inl (.int x2)] h rfl rfl pp_155 (by decide) (s_X12_has x3 x4 h) (fun y1 h2 => ?_)
    refine S_br 1 26 22 [.inr (34, 0), av0, .inl (.int x2), .inl (.int x3), .inl (.int x4)] [.inl (.int x2)] h2 rfl (fun _ => ?_) (fun _ => ?_)
    · refine S_blk 5 (13, [.inr (34, 0), av0, .inl (.int (x2 ||| (0 : Int32))), .inl (.int x3), .inl (.int (x4 + (1 : Int32)))], [], h2) rfl ?_
      refine S_nrm [.inr (34, 0), av0, .inl (.int (x2 ||| (0 : Int32))), .inl (.int x3), .inl (.int (x4 + (1 : Int32)))] rfl ?_
      exact hrc (x2 ||| (0 : Int32)) (x4 + (1 : Int32)) h2
    · refine S_di 2 24 239 1 [.inr (34, 0), av0, .inl (.int x2), .inl (.int x3), .inl (.int x4)] [.inl (.int x4), .inr (34, 0), .inl (.int x2)] [.inr (34, 0), .inl (.int x4), av0, av0] [.inr (34, 0), av0, .inl (.int x2), .inl (.int x3), .inl (.int x4)] [.inl (.int x2)] h2 rfl rfl pp_239 (by decide) (s_X12_nextSet x4 h2) (fun y3 h4 => ?_)
      refine S_blk 5 (13, [.inr (34, 0), av0, .inl (.int (x2 ||| y3)), .inl (.int x3), .inl (.int (x4 + (1 : Int32)))], [], h4) rfl ?_
      refine S_nrm [.inr (34, 0), av0, .inl (.int (x2 ||| y3)), .inl (.int x3), .inl (.int (x4 + (1 : Int32)))] rfl ?_
      exact hrc (x2 ||| y3) (x4 + (1 : Int32)) h4
theorem sl_X12_comesTo_13    (x3 : Int32) : ∀ (F : Nat) (x2 : Int32) (x4 : Int32) (h : AH), Sim PP (2) k_X12_comesTo (13, [.inr (34, 0), av0, .inl (.int x2), .inl (.int x3), .inl (.int x4)], [], h) (l_X12_comesTo_13 F x2 x3 x4 h) (fE PP (2) k_X12_comesTo 31 (fun v => [.inr (34, 0), av0, .inl (.int v), .inl (.int x3), av0])) := by
  intro F
  induction F with
  | zero => intro x2 x4 h; exact S_none
  | succ F ih => intro x2 x4 h; exact sb_X12_comesTo_13 (l_X12_comesTo_13 F) x2 x3 x4 ih h
theorem sc_X12_comesTo_31  (rc : Int32 → Int32 → AH → Option (Int32 × AH))  (x2 : Int32) (x3 : Int32) (hrc : ∀ (x2 : Int32) (x3 : Int32) (h : AH), Sim PP (2) k_X12_comesTo (6, [.inr (34, 0), av0, .inl (.int x2), .inl (.int x3), av0], [], h) (rc x2 x3 h) (fE PP (2) k_X12_comesTo 32 (fun v => [av0, av0, .inl (.int v), av0, av0]))) (h : AH) : Sim PP (2) k_X12_comesTo (31, [.inr (34, 0), av0, .inl (.int x2), .inl (.int x3), av0], [], h) (c_X12_comesTo_31 rc x2 x3 h) (fE PP (2) k_X12_comesTo 32 (fun v => [av0, av0, .inl (.int v), av0, av0])) := by
  unfold c_X12_comesTo_31
  refine S_blk 1 (6, [.inr (34, 0), av0, .inl (.int x2), .inl (.int x3), av0], [], h) rfl ?_
  refine S_nrm [.inr (34, 0), av0, .inl (.int x2), .inl (.int x3), av0] rfl ?_
  exact hrc x2 x3 h
theorem sb_X12_comesTo_6  (rc : Int32 → Int32 → AH → Option (Int32 × AH)) (x2 : Int32) (x3 : Int32) (hrc : ∀ (x2 : Int32) (x3 : Int32) (h : AH), Sim PP (2) k_X12_comesTo (6, [.inr (34, 0), av0, .inl (.int x2), .inl (.int x3), av0], [], h) (rc x2 x3 h) (fE PP (2) k_X12_comesTo 32 (fun v => [av0, av0, .inl (.int v), av0, av0])))  (h : AH) : Sim PP (2) k_X12_comesTo (6, [.inr (34, 0), av0, .inl (.int x2), .inl (.int x3), av0], [], h) (b_X12_comesTo_6 rc x2 x3 h) (fE PP (2) k_X12_comesTo 32 (fun v => [av0, av0, .inl (.int v), av0, av0])) := by
  unfold b_X12_comesTo_6
  refine S_br 3 32 9 [.inr (34, 0), av0, .inl (.int x2), .inl (.int x3), av0] [] h rfl (fun _ => ?_) (fun _ => ?_)
  · exact S_ex x2 (fun v => [av0, av0, .inl (.int v), av0, av0]) rfl
  · refine S_blk 4 (13, [.inr (34, 0), av0, .inl (.int x2), .inl (.int x2), .inl (.int (0 : Int32))], [], h) rfl ?_
    refine S_nrm [.inr (34, 0), av0, .inl (.int x2), .inl (.int x2), .inl (.int (0 : Int32))] rfl ?_
    refine S_lp 31 (fun v => [.inr (34, 0), av0, .inl (.int v), .inl (.int x2), av0]) (sl_X12_comesTo_13 x2 FU x2 (0 : Int32) h) (fun v h => ?_)
    exact sc_X12_comesTo_31 rc v x2 hrc h
theorem sl_X12_comesTo_6     : ∀ (F : Nat) (x2 : Int32) (x3 : Int32) (h : AH), Sim PP (2) k_X12_comesTo (6, [.inr (34, 0), av0, .inl (.int x2), .inl (.int x3), av0], [], h) (l_X12_comesTo_6 F x2 x3 h) (fE PP (2) k_X12_comesTo 32 (fun v => [av0, av0, .inl (.int v), av0, av0])) := by
  intro F
  induction F with
  | zero => intro x2 x3 h; exact S_none
  | succ F ih => intro x2 x3 h; exact sb_X12_comesTo_6 (l_X12_comesTo_6 F) x2 x3 ih h
theorem sc_X12_comesTo_32    (x2 : Int32)  (h : AH) : Sim PP (2) k_X12_comesTo (32, [av0, av0, .inl (.int x2), av0, av0], [], h) (c_X12_comesTo_32  x2 h) fI := by
  unfold c_X12_comesTo_32
  exact S_ri 1 (33, [av0, av0, .inl (.int x2), av0, av0], [.inl (.int x2)], h) rfl rfl
theorem s_X12_comesTo (x1 : Int32) (h : AH) : Sim PP (2) k_X12_comesTo (0, [.inr (34, 0), .inl (.int x1), av0, av0, av0], [], h) (f_X12_comesTo x1 h) fI := by
  unfold f_X12_comesTo
  refine S_blk 6 (6, [.inr (34, 0), .inl (.int x1), .inl (.int ((1 : Int32) <<< (x1 &&& 31))), .inl (.int (0 : Int32)), av0], [], h) rfl ?_
  refine S_nrm [.inr (34, 0), av0, .inl (.int ((1 : Int32) <<< (x1 &&& 31))), .inl (.int (0 : Int32)), av0] rfl ?_
  refine S_lp 32 (fun v => [av0, av0, .inl (.int v), av0, av0]) (sl_X12_comesTo_6  FU ((1 : Int32) <<< (x1 &&& 31)) (0 : Int32) h) (fun v h => ?_)
  exact sc_X12_comesTo_32 v h
theorem sb_X12_agree_14  (rc : Int32 → Int32 → Int32 → AH → Option (Int32 × AH)) (x2 : Int32) (x3 : Int32) (x4 : Int32) (hrc : ∀ (x3 : Int32) (x4 : Int32) (h : AH), Sim PP (3) k_X12_agree (14, [.inr (34, 0), av0, .inl (.int x2), .inl (.int x3), .inl (.int x4)], [], h) (rc x2 x3 x4 h) (fE PP (3) k_X12_agree 38 (fun v => [av0, av0, av0, .inl (.int v), av0])))  (h : AH) : Sim PP (3) k_X12_agree (14, [.inr (34, 0), av0, .inl (.int x2), .inl (.int x3), .inl (.int x4)], [], h) (b_X12_agree_14 rc x2 x3 x4 h) (fE PP (3) k_X12_agree 38 (fun v => [av0, av0, av0, .inl (.int v), av0])) := by
  unfold b_X12_agree_14
  refine S_br 4 38 18 [.inr (34, 0), av0, .inl (.int x2), .inl (.int x3), .inl (.int x4)] [] h rfl (fun _ => ?_) (fun _ => ?_)
  · exact S_ex x3 (fun v => [av0, av0, av0, .inl (.int v), av0]) rfl
  · refine S_di 3 21 155 0 [.inr (34, 0), av0, .inl (.int x2), .inl (.int x3), .inl (.int x4)] [.inl (.int x4), .inl (.int x2), .inl (.int x3)] [.inl (.int x2), .inl (.int x4)] [.inr (34, 0), av0, .inl (.int x2), .inl (.int x3), .inl (.int x4)] [.inl (.int x3)] h rfl rfl pp_155 (by decide) (s_X12_has x2 x4 h) (fun y1 h2 => ?_)
    refine S_br 1 33 23 [.inr (34, 0), av0, .inl (.int x2), .inl (.int x3), .inl (.int x4)] [.inl (.int x3)] h2 rfl (fun _ => ?_) (fun _ => ?_)
    · refine S_blk 5 (14, [.inr (34, 0), av0, .inl (.int x2), .inl (.int (x3 ||| (0 : Int32))), .inl (.int (x4 + (1 : Int32)))], [], h2) rfl ?_
      refine S_nrm [.inr (34, 0), av0, .inl (.int x2), .inl (.int (x3 ||| (0 : Int32))), .inl (.int (x4 + (1 : Int32)))] rfl ?_
      exact hrc (x3 ||| (0 : Int32)) (x4 + (1 : Int32)) h2
    · refine S_di 2 25 198 1 [.inr (34, 0), av0, .inl (.int x2), .inl (.int x3), .inl (.int x4)] [.inl (.int x4), .inr (34, 0), .inl (.int x3)] [.inr (34, 0), .inl (.int x4), av0, av0] [.inr (34, 0), av0, .inl (.int x2), .inl (.int x3), .inl (.int x4)] [.inl (.int x3)] h2 rfl rfl pp_198 (by decide) (s_X12_usableFor x4 h2) (fun y3 h4 => ?_)
      refine S_di 0 26 156 0 [.inr (34, 0), av0, .inl (.int x2), .inl (.int x3), .inl (.int x4)] [.inl (.int y3), .inl (.int x3)] [.inl (.int y3), av0, av0] [.inr (34, 0), av0, .inl (.int x2), .inl (.int x3), .inl (.int x4)] [.inl (.int x3)] h4 rfl rfl pp_156 (by decide) (s_X12_bits y3 h4) (fun y5 h6 => ?_)
      refine S_br 2 33 29 [.inr (34, 0), av0, .inl (.int x2), .inl (.int x3), .inl (.int x4)] [.inl (.int x3)] h6 rfl (fun _ => ?_) (fun _ => ?_)
      · refine S_blk 5 (14, [.inr (34, 0), av0, .inl (.int x2), .inl (.int (x3 ||| (0 : Int32))), .inl (.int (x4 + (1 : Int32)))], [], h6) rfl ?_
        refine S_nrm [.inr (34, 0), av0, .inl (.int x2), .inl (.int (x3 ||| (0 : Int32))), .inl (.int (x4 + (1 : Int32)))] rfl ?_
        exact hrc (x3 ||| (0 : Int32)) (x4 + (1 : Int32)) h6
      · refine S_blk 8 (14, [.inr (34, 0), av0, .inl (.int x2), .inl (.int (x3 ||| ((1 : Int32) <<< (x4 &&& 31)))), .inl (.int (x4 + (1 : Int32)))], [], h6) rfl ?_
        refine S_nrm [.inr (34, 0), av0, .inl (.int x2), .inl (.int (x3 ||| ((1 : Int32) <<< (x4 &&& 31)))), .inl (.int (x4 + (1 : Int32)))] rfl ?_
        exact hrc (x3 ||| ((1 : Int32) <<< (x4 &&& 31))) (x4 + (1 : Int32)) h6
theorem sl_X12_agree_14    (x2 : Int32) : ∀ (F : Nat) (x3 : Int32) (x4 : Int32) (h : AH), Sim PP (3) k_X12_agree (14, [.inr (34, 0), av0, .inl (.int x2), .inl (.int x3), .inl (.int x4)], [], h) (l_X12_agree_14 F x2 x3 x4 h) (fE PP (3) k_X12_agree 38 (fun v => [av0, av0, av0, .inl (.int v), av0])) := by
  intro F
  induction F with
  | zero => intro x3 x4 h; exact S_none
  | succ F ih => intro x3 x4 h; exact sb_X12_agree_14 (l_X12_agree_14 F) x2 x3 x4 ih h
theorem sc_X12_agree_38    (x3 : Int32)  (h : AH) : Sim PP (3) k_X12_agree (38, [av0, av0, av0, .inl (.int x3), av0], [], h) (c_X12_agree_38  x3 h) fI := by
  unfold c_X12_agree_38
  exact S_ri 1 (39, [av0, av0, av0, .inl (.int x3), av0], [.inl (.int x3)], h) rfl rfl
theorem s_X12_agree (x1 : Int32) (h : AH) : Sim PP (3) k_X12_agree (0, [.inr (34, 0), .inl (.int x1), av0, av0, av0], [], h) (f_X12_agree x1 h) fI := by
  unfold f_X12_agree
  refine S_di 2 2 189 1 [.inr (34, 0), .inl (.int x1), av0, av0, av0] [.inl (.int x1), .inr (34, 0)] [.inr (34, 0), .inl (.int x1)] [.inr (34, 0), .inl (.int x1), av0, av0, av0] [] h rfl rfl pp_189 (by decide) (s_X12_isClaim x1 h) (fun y1 h2 => ?_)
  refine S_br 1 4 6 [.inr (34, 0), .inl (.int x1), av0, av0, av0] [] h2 rfl (fun _ => ?_) (fun _ => ?_)
  · exact S_ri 1 (5, [.inr (34, 0), .inl (.int x1), av0, av0, av0], [.inl (.int (-1 : Int32))], h2) rfl rfl
  · refine S_di 2 8 249 2 [.inr (34, 0), .inl (.int x1), av0, av0, av0] [.inl (.int x1), .inr (34, 0)] [.inr (34, 0), .inl (.int x1), av0, av0, av0] [.inr (34, 0), .inl (.int x1), av0, av0, av0] [] h2 rfl rfl pp_249 (by decide) (s_X12_comesTo x1 h2) (fun y3 h4 => ?_)
    refine S_blk 5 (14, [.inr (34, 0), .inl (.int x1), .inl (.int y3), .inl (.int (0 : Int32)), .inl (.int (0 : Int32))], [], h4) rfl ?_
    refine S_nrm [.inr (34, 0), av0, .inl (.int y3), .inl (.int (0 : Int32)), .inl (.int (0 : Int32))] rfl ?_
    refine S_lp 38 (fun v => [av0, av0, av0, .inl (.int v), av0]) (sl_X12_agree_14 y3 FU (0 : Int32) (0 : Int32) h4) (fun v h => ?_)
    exact sc_X12_agree_38 v h
theorem sb_X0_thinnestFrom_17  (rc : Int32 → Int32 → Int32 → Int32 → AH → Option (Int32 × AH)) (x2 : Int32) (x3 : Int32) (x4 : Int32) (x5 : Int32) (hrc : ∀ (x3 : Int32) (x4 : Int32) (x5 : Int32) (h : AH), Sim PP (3) k_X0_thinnestFrom (17, [.inr (18, 0), av0, .inl (.int x2), .inl (.int x3), .inl (.int x4), .inl (.int x5), av0], [], h) (rc x2 x3 x4 x5 h) (fE PP (3) k_X0_thinnestFrom 40 (fun v => [av0, av0, av0, .inl (.int v), av0, av0, av0])))  (h : AH) : Sim PP (3) k_X0_thinnestFrom (17, [.inr (18, 0), av0, .inl (.int x2), .inl (.int x3), .inl (.int x4), .inl (.int x5), av0], [], h) (b_X0_thinnestFrom_17 rc x2 x3 x4 x5 h) (fE PP (3) k_X0_thinnestFrom 40 (fun v => [av0, av0, av0, .inl (.int v), av0, av0, av0])) := by
  unfold b_X0_thinnestFrom_17
  refine S_br 5 40 22 [.inr (18, 0), av0, .inl (.int x2), .inl (.int x3), .inl (.int x4), .inl (.int x5), av0] [] h rfl (fun _ => ?_) (fun _ => ?_)
  · exact S_ex x3 (fun v => [av0, av0, av0, .inl (.int v), av0, av0, av0]) rfl
  · refine S_di 2 24 1 2 [.inr (18, 0), av0, .inl (.int x2), .inl (.int x3), .inl (.int x4), .inl (.int x5), av0] [.inl (.int x5), .inr (18, 0)] [.inr (18, 0), .inl (.int x5), av0, av0] [.inr (18, 0), av0, .inl (.int x2), .inl (.int x3), .inl (.int x4), .inl (.int x5), av0] [] h rfl rfl pp_1 (by decide) (s_X0_usableFor x5 h) (fun y1 h2 => ?_)
    refine S_di 0 25 271 0 [.inr (18, 0), av0, .inl (.int x2), .inl (.int x3), .inl (.int x4), .inl (.int x5), av0] [.inl (.int y1)] [.inl (.int y1)] [.inr (18, 0), av0, .inl (.int x2), .inl (.int x3), .inl (.int x4), .inl (.int x5), av0] [] h2 rfl rfl pp_271 (by decide) (s_J6_bitCount_0f7a4 y1 h2) (fun y3 h4 => ?_)
    refine S_di 3 29 138 0 [.inr (18, 0), av0, .inl (.int x2), .inl (.int x3), .inl (.int x4), .inl (.int x5), .inl (.int y3)] [.inl (.int x5), .inl (.int x2)] [.inl (.int x2), .inl (.int x5)] [.inr (18, 0), av0, .inl (.int x2), .inl (.int x3), .inl (.int x4), .inl (.int x5), .inl (.int y3)] [] h4 rfl rfl pp_138 (by decide) (s_X11_has x2 x5 h4) (fun y5 h6 => ?_)
    refine S_br 1 38 31 [.inr (18, 0), av0, .inl (.int x2), .inl (.int x3), .inl (.int x4), .inl (.int x5), .inl (.int y3)] [] h6 rfl (fun _ => ?_) (fun _ => ?_)
    · refine S_blk 2 (17, [.inr (18, 0), av0, .inl (.int x2), .inl (.int x3), .inl (.int x4), .inl (.int (x5 + (1 : Int32))), .inl (.int y3)], [], h6) rfl ?_
      refine S_nrm [.inr (18, 0), av0, .inl (.int x2), .inl (.int x3), .inl (.int x4), .inl (.int (x5 + (1 : Int32))), av0] rfl ?_
      exact hrc x3 x4 (x5 + (1 : Int32)) h6
    · refine S_br 3 38 34 [.inr (18, 0), av0, .inl (.int x2), .inl (.int x3), .inl (.int x4), .inl (.int x5), .inl (.int y3)] [] h6 rfl (fun _ => ?_) (fun _ => ?_)
      · refine S_blk 2 (17, [.inr (18, 0), av0, .inl (.int x2), .inl (.int x3), .inl (.int x4), .inl (.int (x5 + (1 : Int32))), .inl (.int y3)], [], h6) rfl ?_
        refine S_nrm [.inr (18, 0), av0, .inl (.int x2), .inl (.int x3), .inl (.int x4), .inl (.int (x5 + (1 : Int32))), av0] rfl ?_
        exact hrc x3 x4 (x5 + (1 : Int32)) h6
      · refine S_blk 6 (17, [.inr (18, 0), av0, .inl (.int x2), .inl (.int x5), .inl (.int y3), .inl (.int (x5 + (1 : Int32))), .inl (.int y3)], [], h6) rfl ?_
        refine S_nrm [.inr (18, 0), av0, .inl (.int x2), .inl (.int x5), .inl (.int y3), .inl (.int (x5 + (1 : Int32))), av0] rfl ?_
        exact hrc x5 y3 (x5 + (1 : Int32)) h6
theorem sl_X0_thinnestFrom_17    (x2 : Int32) : ∀ (F : Nat) (x3 : Int32) (x4 : Int32) (x5 : Int32) (h : AH), Sim PP (3) k_X0_thinnestFrom (17, [.inr (18, 0), av0, .inl (.int x2), .inl (.int x3), .inl (.int x4), .inl (.int x5), av0], [], h) (l_X0_thinnestFrom_17 F x2 x3 x4 x5 h) (fE PP (3) k_X0_thinnestFrom 40 (fun v => [av0, av0, av0, .inl (.int v), av0, av0, av0])) := by
  intro F
  induction F with
  | zero => intro x3 x4 x5 h; exact S_none
  | succ F ih => intro x3 x4 x5 h; exact sb_X0_thinnestFrom_17 (l_X0_thinnestFrom_17 F) x2 x3 x4 x5 ih h
theorem sc_X0_thinnestFrom_40    (x3 : Int32)  (h : AH) : Sim PP (3) k_X0_thinnestFrom (40, [av0, av0, av0, .inl (.int x3), av0, av0, av0], [], h) (c_X0_thinnestFrom_40  x3 h) fI := by
  unfold c_X0_thinnestFrom_40
  exact S_ri 1 (41, [av0, av0, av0, .inl (.int x3), av0, av0, av0], [.inl (.int x3)], h) rfl rfl
theorem s_X0_thinnestFrom (x1 : Int32) (h : AH) : Sim PP (3) k_X0_thinnestFrom (0, [.inr (18, 0), .inl (.int x1), av0, av0, av0, av0, av0], [], h) (f_X0_thinnestFrom x1 h) fI := by
  unfold f_X0_thinnestFrom
  refine S_di 2 2 11 2 [.inr (18, 0), .inl (.int x1), av0, av0, av0, av0, av0] [.inl (.int x1), .inr (18, 0)] [.inr (18, 0), .inl (.int x1), av0, av0, av0, av0, av0] [.inr (18, 0), .inl (.int x1), av0, av0, av0, av0, av0] [] h rfl rfl pp_11 (by decide) (s_X0_reachOf x1 h) (fun y1 h2 => ?_)
  refine S_di 3 6 51 1 [.inr (18, 0), .inl (.int x1), av0, av0, av0, av0, av0] [.inl (.int (1 : Int32)), .inr (12, 0), .inl (.int y1)] [.inr (12, 0), .inl (.int (1 : Int32))] [.inr (18, 0), .inl (.int x1), av0, av0, av0, av0, av0] [.inl (.int y1)] h2 rfl rfl pp_51 (by decide) (s_X6_bitsOf 0 (1 : Int32) h2) (fun y3 h4 => ?_)
  refine S_blk 10 (17, [.inr (18, 0), .inl (.int x1), .inl (.int (y1 &&& (y3 ^^^ (-1 : Int32)))), .inl (.int (-9 : Int32)), .inl (.int (1000000 : Int32)), .inl (.int (0 : Int32)), av0], [], h4) rfl ?_
  refine S_nrm [.inr (18, 0), av0, .inl (.int (y1 &&& (y3 ^^^ (-1 : Int32)))), .inl (.int (-9 : Int32)), .inl (.int (1000000 : Int32)), .inl (.int (0 : Int32)), av0] rfl ?_
  refine S_lp 40 (fun v => [av0, av0, av0, .inl (.int v), av0, av0, av0]) (sl_X0_thinnestFrom_17 (y1 &&& (y3 ^^^ (-1 : Int32))) FU (-9 : Int32) (1000000 : Int32) (0 : Int32) h4) (fun v h => ?_)
  exact sc_X0_thinnestFrom_40 v h
theorem s_X11_thin (x1 : Int32) (h : AH) : Sim PP (4) k_X11_thin (0, [.inr (0, 0), .inl (.int x1), av0], [], h) (f_X11_thin x1 h) fI := by
  unfold f_X11_thin
  refine S_di 2 2 136 0 [.inr (0, 0), .inl (.int x1), av0] [.inl (.int x1), .inr (0, 0)] [.inr (0, 0), .inl (.int x1)] [.inr (0, 0), .inl (.int x1), av0] [] h rfl rfl pp_136 (by decide) (s_X11_isClaim x1 h) (fun y1 h2 => ?_)
  refine S_br 1 4 6 [.inr (0, 0), .inl (.int x1), av0] [] h2 rfl (fun _ => ?_) (fun _ => ?_)
  · exact S_ri 1 (5, [.inr (0, 0), .inl (.int x1), av0], [.inl (.int (-1 : Int32))], h2) rfl rfl
  · refine S_di 3 9 13 3 [.inr (0, 0), .inl (.int x1), av0] [.inl (.int x1), .inr (18, 0)] [.inr (18, 0), .inl (.int x1), av0, av0, av0, av0, av0] [.inr (0, 0), .inl (.int x1), av0] [] h2 rfl rfl pp_13 (by decide) (s_X0_thinnestFrom x1 h2) (fun y3 h4 => ?_)
    refine S_br 4 21 14 [.inr (0, 0), .inl (.int x1), .inl (.int y3)] [] h4 rfl (fun _ => ?_) (fun _ => ?_)
    · exact S_ri 1 (22, [.inr (0, 0), .inl (.int x1), .inl (.int y3)], [.inl (.int y3)], h4) rfl rfl
    · refine S_di 4 18 1 2 [.inr (0, 0), .inl (.int x1), .inl (.int y3)] [.inl (.int y3), .inr (18, 0), .inr (0, 0)] [.inr (18, 0), .inl (.int y3), av0, av0] [.inr (0, 0), .inl (.int x1), .inl (.int y3)] [.inr (0, 0)] h4 rfl rfl pp_1 (by decide) (s_X0_usableFor y3 h4) (fun y5 h6 => ?_)
      refine S_di 0 19 271 0 [.inr (0, 0), .inl (.int x1), .inl (.int y3)] [.inl (.int y5), .inr (0, 0)] [.inl (.int y5)] [.inr (0, 0), .inl (.int x1), .inl (.int y3)] [.inr (0, 0)] h6 rfl rfl pp_271 (by decide) (s_J6_bitCount_0f7a4 y5 h6) (fun y7 h8 => ?_)
      exact S_ri 2 (22, [.inr (0, 0), .inl (.int x1), .inl (.int y3)], [.inl (.int y3)], (hsI h8 0 0 14 y7)) rfl rfl
theorem sb_X12_thin_17  (rc : Int32 → Int32 → Int32 → AH → Option (Int32 × AH)) (x2 : Int32) (x3 : Int32) (x4 : Int32) (hrc : ∀ (x3 : Int32) (x4 : Int32) (h : AH), Sim PP (3) k_X12_thin (17, [.inr (34, 0), av0, .inl (.int x2), .inl (.int x3), .inl (.int x4), av0], [], h) (rc x2 x3 x4 h) (fE PP (3) k_X12_thin 51 (fun v => [.inr (34, 0), av0, av0, .inl (.int v), av0, av0])))  (h : AH) : Sim PP (3) k_X12_thin (17, [.inr (34, 0), av0, .inl (.int x2), .inl (.int x3), .inl (.int x4), av0], [], h) (b_X12_thin_17 rc x2 x3 x4 h) (fE PP (3) k_X12_thin 51 (fun v => [.inr (34, 0), av0, av0, .inl (.int v), av0, av0])) := by
  unfold b_X12_thin_17
  refine S_br 2 51 19 [.inr (34, 0), av0, .inl (.int x2), .inl (.int x3), .inl (.int x4), av0] [] h rfl (fun _ => ?_) (fun _ => ?_)
  · exact S_ex x3 (fun v => [.inr (34, 0), av0, av0, .inl (.int v), av0, av0]) rfl
  · refine S_di 2 21 155 0 [.inr (34, 0), av0, .inl (.int x2), .inl (.int x3), .inl (.int x4), av0] [.inl (.int x4), .inl (.int x2)] [.inl (.int x2), .inl (.int x4)] [.inr (34, 0), av0, .inl (.int x2), .inl (.int x3), .inl (.int x4), av0] [] h rfl rfl pp_155 (by decide) (s_X12_has x2 x4 h) (fun y1 h2 => ?_)
    refine S_br 1 29 23 [.inr (34, 0), av0, .inl (.int x2), .inl (.int x3), .inl (.int x4), av0] [] h2 rfl (fun _ => ?_) (fun _ => ?_)
    · refine S_bt 4 (c := (0 : Int32) = 0) 47 33 [.inr (34, 0), av0, .inl (.int x2), .inl (.int x3), .inl (.int x4), .inl (.int (0 : Int32))] [] h2 rfl (by decide) ?_
      refine S_blk 4 (17, [.inr (34, 0), av0, .inl (.int x2), .inl (.int x3), .inl (.int (x4 + (-1 : Int32))), .inl (.int (0 : Int32))], [], h2) rfl ?_
      refine S_nrm [.inr (34, 0), av0, .inl (.int x2), .inl (.int x3), .inl (.int (x4 + (-1 : Int32))), av0] rfl ?_
      exact hrc x3 (x4 + (-1 : Int32)) h2
    · refine S_di 2 25 193 1 [.inr (34, 0), av0, .inl (.int x2), .inl (.int x3), .inl (.int x4), av0] [.inl (.int x4), .inr (34, 0)] [.inr (34, 0), .inl (.int x4)] [.inr (34, 0), av0, .inl (.int x2), .inl (.int x3), .inl (.int x4), av0] [] h2 rfl rfl pp_193 (by decide) (s_X12_isEnd x4 h2) (fun y3 h4 => ?_)
      refine S_br 1 27 29 [.inr (34, 0), av0, .inl (.int x2), .inl (.int x3), .inl (.int x4), av0] [] h4 rfl (fun _ => ?_) (fun _ => ?_)
      · refine S_bf 5 (c := (1 : Int32) = 0) 47 33 [.inr (34, 0), av0, .inl (.int x2), .inl (.int x3), .inl (.int x4), .inl (.int (1 : Int32))] [] h4 rfl (by decide) ?_
        refine S_br 3 45 36 [.inr (34, 0), av0, .inl (.int x2), .inl (.int x3), .inl (.int x4), .inl (.int (1 : Int32))] [] h4 rfl (fun _ => ?_) (fun _ => ?_)
        · refine S_blk 5 (17, [.inr (34, 0), av0, .inl (.int x2), .inl (.int x4), .inl (.int (x4 + (-1 : Int32))), .inl (.int (1 : Int32))], [], h4) rfl ?_
          refine S_nrm [.inr (34, 0), av0, .inl (.int x2), .inl (.int x4), .inl (.int (x4 + (-1 : Int32))), av0] rfl ?_
          exact hrc x4 (x4 + (-1 : Int32)) h4
        · refine S_di 2 38 198 1 [.inr (34, 0), av0, .inl (.int x2), .inl (.int x3), .inl (.int x4), .inl (.int (1 : Int32))] [.inl (.int x4), .inr (34, 0)] [.inr (34, 0), .inl (.int x4), av0, av0] [.inr (34, 0), av0, .inl (.int x2), .inl (.int x3), .inl (.int x4), .inl (.int (1 : Int32))] [] h4 rfl rfl pp_198 (by decide) (s_X12_usableFor x4 h4) (fun y5 h6 => ?_)
          refine S_di 0 39 156 0 [.inr (34, 0), av0, .inl (.int x2), .inl (.int x3), .inl (.int x4), .inl (.int (1 : Int32))] [.inl (.int y5)] [.inl (.int y5), av0, av0] [.inr (34, 0), av0, .inl (.int x2), .inl (.int x3), .inl (.int x4), .inl (.int (1 : Int32))] [] h6 rfl rfl pp_156 (by decide) (s_X12_bits y5 h6) (fun y7 h8 => ?_)
          refine S_di 2 42 198 1 [.inr (34, 0), av0, .inl (.int x2), .inl (.int x3), .inl (.int x4), .inl (.int (1 : Int32))] [.inl (.int x3), .inr (34, 0), .inl (.int y7)] [.inr (34, 0), .inl (.int x3), av0, av0] [.inr (34, 0), av0, .inl (.int x2), .inl (.int x3), .inl (.int x4), .inl (.int (1 : Int32))] [.inl (.int y7)] h8 rfl rfl pp_198 (by decide) (s_X12_usableFor x3 h8) (fun y9 h10 => ?_)
          refine S_di 0 43 156 0 [.inr (34, 0), av0, .inl (.int x2), .inl (.int x3), .inl (.int x4), .inl (.int (1 : Int32))] [.inl (.int y9), .inl (.int y7)] [.inl (.int y9), av0, av0] [.inr (34, 0), av0, .inl (.int x2), .inl (.int x3), .inl (.int x4), .inl (.int (1 : Int32))] [.inl (.int y7)] h10 rfl rfl pp_156 (by decide) (s_X12_bits y9 h10) (fun y11 h12 => ?_)
          refine S_br 1 47 45 [.inr (34, 0), av0, .inl (.int x2), .inl (.int x3), .inl (.int x4), .inl (.int (1 : Int32))] [] h12 rfl (fun _ => ?_) (fun _ => ?_)
          · refine S_blk 4 (17, [.inr (34, 0), av0, .inl (.int x2), .inl (.int x3), .inl (.int (x4 + (-1 : Int32))), .inl (.int (1 : Int32))], [], h12) rfl ?_
            refine S_nrm [.inr (34, 0), av0, .inl (.int x2), .inl (.int x3), .inl (.int (x4 + (-1 : Int32))), av0] rfl ?_
            exact hrc x3 (x4 + (-1 : Int32)) h12
          · refine S_blk 5 (17, [.inr (34, 0), av0, .inl (.int x2), .inl (.int x4), .inl (.int (x4 + (-1 : Int32))), .inl (.int (1 : Int32))], [], h12) rfl ?_
            refine S_nrm [.inr (34, 0), av0, .inl (.int x2), .inl (.int x4), .inl (.int (x4 + (-1 : Int32))), av0] rfl ?_
            exact hrc x4 (x4 + (-1 : Int32)) h12
      · refine S_bt 4 (c := (0 : Int32) = 0) 47 33 [.inr (34, 0), av0, .inl (.int x2), .inl (.int x3), .inl (.int x4), .inl (.int (0 : Int32))] [] h4 rfl (by decide) ?_
        refine S_blk 4 (17, [.inr (34, 0), av0, .inl (.int x2), .inl (.int x3), .inl (.int (x4 + (-1 : Int32))), .inl (.int (0 : Int32))], [], h4) rfl ?_
        refine S_nrm [.inr (34, 0), av0, .inl (.int x2), .inl (.int x3), .inl (.int (x4 + (-1 : Int32))), av0] rfl ?_
        exact hrc x3 (x4 + (-1 : Int32)) h4
theorem sl_X12_thin_17    (x2 : Int32) : ∀ (F : Nat) (x3 : Int32) (x4 : Int32) (h : AH), Sim PP (3) k_X12_thin (17, [.inr (34, 0), av0, .inl (.int x2), .inl (.int x3), .inl (.int x4), av0], [], h) (l_X12_thin_17 F x2 x3 x4 h) (fE PP (3) k_X12_thin 51 (fun v => [.inr (34, 0), av0, av0, .inl (.int v), av0, av0])) := by
  intro F
  induction F with
  | zero => intro x3 x4 h; exact S_none
  | succ F ih => intro x3 x4 h; exact sb_X12_thin_17 (l_X12_thin_17 F) x2 x3 x4 ih h
theorem sc_X12_thin_51    (x3 : Int32)  (h : AH) : Sim PP (3) k_X12_thin (51, [.inr (34, 0), av0, av0, .inl (.int x3), av0, av0], [], h) (c_X12_thin_51  x3 h) fI := by
  unfold c_X12_thin_51
  refine S_br 3 54 56 [.inr (34, 0), av0, av0, .inl (.int x3), av0, av0] [] h rfl (fun _ => ?_) (fun _ => ?_)
  · exact S_ri 2 (63, [.inr (34, 0), av0, av0, .inl (.int x3), av0, av0], [.inl (.int (-9 : Int32))], h) rfl rfl
  · refine S_di 3 59 198 1 [.inr (34, 0), av0, av0, .inl (.int x3), av0, av0] [.inl (.int x3), .inr (34, 0), .inr (34, 0)] [.inr (34, 0), .inl (.int x3), av0, av0] [.inr (34, 0), av0, av0, .inl (.int x3), av0, av0] [.inr (34, 0)] h rfl rfl pp_198 (by decide) (s_X12_usableFor x3 h) (fun y1 h2 => ?_)
    refine S_di 0 60 156 0 [.inr (34, 0), av0, av0, .inl (.int x3), av0, av0] [.inl (.int y1), .inr (34, 0)] [.inl (.int y1), av0, av0] [.inr (34, 0), av0, av0, .inl (.int x3), av0, av0] [.inr (34, 0)] h2 rfl rfl pp_156 (by decide) (s_X12_bits y1 h2) (fun y3 h4 => ?_)
    refine S_di 1 62 162 0 [.inr (34, 0), av0, av0, .inl (.int x3), av0, av0] [.inl (.int x3), .inl (.int y3), .inr (34, 0)] [.inr (34, 0), .inl (.int y3), .inl (.int x3)] [.inr (34, 0), av0, av0, .inl (.int x3), av0, av0] [] h4 rfl rfl pp_162 (by decide) (s_X12_tells y3 x3 h4) (fun y5 h6 => ?_)
    exact S_ri 0 (63, [.inr (34, 0), av0, av0, .inl (.int x3), av0, av0], [.inl (.int y5)], h6) rfl rfl
theorem s_X12_thin (x1 : Int32) (h : AH) : Sim PP (3) k_X12_thin (0, [.inr (34, 0), .inl (.int x1), av0, av0, av0, av0], [], h) (f_X12_thin x1 h) fI := by
  unfold f_X12_thin
  refine S_di 2 2 189 1 [.inr (34, 0), .inl (.int x1), av0, av0, av0, av0] [.inl (.int x1), .inr (34, 0)] [.inr (34, 0), .inl (.int x1)] [.inr (34, 0), .inl (.int x1), av0, av0, av0, av0] [] h rfl rfl pp_189 (by decide) (s_X12_isClaim x1 h) (fun y1 h2 => ?_)
  refine S_br 1 4 6 [.inr (34, 0), .inl (.int x1), av0, av0, av0, av0] [] h2 rfl (fun _ => ?_) (fun _ => ?_)
  · exact S_ri 1 (5, [.inr (34, 0), .inl (.int x1), av0, av0, av0, av0], [.inl (.int (-1 : Int32))], h2) rfl rfl
  · refine S_di 2 8 249 2 [.inr (34, 0), .inl (.int x1), av0, av0, av0, av0] [.inl (.int x1), .inr (34, 0)] [.inr (34, 0), .inl (.int x1), av0, av0, av0] [.inr (34, 0), .inl (.int x1), av0, av0, av0, av0] [] h2 rfl rfl pp_249 (by decide) (s_X12_comesTo x1 h2) (fun y3 h4 => ?_)
    refine S_blk 8 (17, [.inr (34, 0), .inl (.int x1), .inl (.int y3), .inl (.int (-9 : Int32)), .inl (.int ((h4.1 34 0 10) - (1 : Int32))), av0], [], h4) rfl ?_
    refine S_nrm [.inr (34, 0), av0, .inl (.int y3), .inl (.int (-9 : Int32)), .inl (.int ((h4.1 34 0 10) - (1 : Int32))), av0] rfl ?_
    refine S_lp 51 (fun v => [.inr (34, 0), av0, av0, .inl (.int v), av0, av0]) (sl_X12_thin_17 y3 FU (-9 : Int32) ((h4.1 34 0 10) - (1 : Int32)) h4) (fun v h => ?_)
    exact sc_X12_thin_51 v h
theorem s_X11_without (x1 : Int32) (h : AH) : Sim PP (5) k_X11_without (0, [.inr (0, 0), .inl (.int x1)], [], h) (f_X11_without x1 h) fI := by
  unfold f_X11_without
  refine S_di 2 2 136 0 [.inr (0, 0), .inl (.int x1)] [.inl (.int x1), .inr (0, 0)] [.inr (0, 0), .inl (.int x1)] [.inr (0, 0), .inl (.int x1)] [] h rfl rfl pp_136 (by decide) (s_X11_isClaim x1 h) (fun y1 h2 => ?_)
  refine S_br 1 9 4 [.inr (0, 0), .inl (.int x1)] [] h2 rfl (fun _ => ?_) (fun _ => ?_)
  · exact S_ri 1 (10, [.inr (0, 0), .inl (.int x1)], [.inl (.int (-1 : Int32))], h2) rfl rfl
  · refine S_di 3 7 9 4 [.inr (0, 0), .inl (.int x1)] [.inl (.int x1), .inr (18, 0)] [.inr (18, 0), .inl (.int x1)] [.inr (0, 0), .inl (.int x1)] [] h2 rfl rfl pp_9 (by decide) (s_X0_fallingWithout x1 h2) (fun y3 h4 => ?_)
    exact S_ri 1 (10, [.inr (0, 0), .inl (.int x1)], [.inl (.int y3)], h4) rfl rfl
theorem s_X12_without (x1 : Int32) (h : AH) : Sim PP (4) k_X12_without (0, [.inr (34, 0), .inl (.int x1)], [], h) (f_X12_without x1 h) fI := by
  unfold f_X12_without
  refine S_di 2 2 189 1 [.inr (34, 0), .inl (.int x1)] [.inl (.int x1), .inr (34, 0)] [.inr (34, 0), .inl (.int x1)] [.inr (34, 0), .inl (.int x1)] [] h rfl rfl pp_189 (by decide) (s_X12_isClaim x1 h) (fun y1 h2 => ?_)
  refine S_br 1 8 4 [.inr (34, 0), .inl (.int x1)] [] h2 rfl (fun _ => ?_) (fun _ => ?_)
  · exact S_ri 1 (9, [.inr (34, 0), .inl (.int x1)], [.inl (.int (-1 : Int32))], h2) rfl rfl
  · refine S_di 2 6 208 3 [.inr (34, 0), .inl (.int x1)] [.inl (.int x1), .inr (34, 0)] [.inr (34, 0), .inl (.int x1)] [.inr (34, 0), .inl (.int x1)] [] h2 rfl rfl pp_208 (by decide) (s_X12_fallSet x1 h2) (fun y3 h4 => ?_)
    exact S_ri 1 (9, [.inr (34, 0), .inl (.int x1)], [.inl (.int y3)], h4) rfl rfl
theorem sb_X3_fellingOf_23  (rc : Int32 → Int32 → Int32 → Int32 → Int32 → Int32 → AH → Option (Int32 × AH)) (x1 : Int32) (x2 : Int32) (x3 : Int32) (x4 : Int32) (x5 : Int32) (x6 : Int32) (hrc : ∀ (x1 : Int32) (x2 : Int32) (x3 : Int32) (x4 : Int32) (x5 : Int32) (x6 : Int32) (h : AH), Sim PP (4) k_X3_fellingOf (23, [.inr (26, 0), .inl (.int x1), .inl (.int x2), .inl (.int x3), .inl (.int x4), .inl (.int x5), .inl (.int x6)], [], h) (rc x1 x2 x3 x4 x5 x6 h) fI)  (h : AH) : Sim PP (4) k_X3_fellingOf (23, [.inr (26, 0), .inl (.int x1), .inl (.int x2), .inl (.int x3), .inl (.int x4), .inl (.int x5), .inl (.int x6)], [], h) (b_X3_fellingOf_23 rc x1 x2 x3 x4 x5 x6 h) fI := by
  unfold b_X3_fellingOf_23
  refine S_br 3 57 26 [.inr (26, 0), .inl (.int x1), .inl (.int x2), .inl (.int x3), .inl (.int x4), .inl (.int x5), .inl (.int x6)] [] h rfl (fun _ => ?_) (fun _ => ?_)
  · exact S_ri 1 (58, [av0, av0, av0, .inl (.int x3), av0, av0, av0], [.inl (.int x3)], h) rfl rfl
  · refine S_di 1 27 271 0 [.inr (26, 0), .inl (.int x1), .inl (.int x2), .inl (.int x3), .inl (.int x4), .inl (.int x5), .inl (.int x6)] [.inl (.int x5)] [.inl (.int x5)] [.inr (26, 0), .inl (.int x1), .inl (.int x2), .inl (.int x3), .inl (.int x4), .inl (.int x5), .inl (.int x6)] [] h rfl rfl pp_271 (by decide) (s_J6_bitCount_0f7a4 x5 h) (fun y1 h2 => ?_)
    refine S_br 2 47 30 [.inr (26, 0), .inl (.int x1), .inl (.int x2), .inl (.int x3), .inl (.int x4), .inl (.int x5), .inl (.int x6)] [] h2 rfl (fun _ => ?_) (fun _ => ?_)
    · refine S_br 3 50 51 [.inr (26, 0), .inl (.int x1), .inl (.int x2), .inl (.int x3), .inl (.int x4), .inl (.int x5), .inl (.int x6)] [] h2 rfl (fun _ => ?_) (fun _ => ?_)
      · exact S_ri 2 (58, [av0, av0, av0, .inl (.int x3), av0, av0, av0], [.inl (.int x3)], h2) rfl rfl
      · refine S_di 2 53 30 0 [.inr (26, 0), .inl (.int x1), .inl (.int x2), .inl (.int x3), .inl (.int x4), .inl (.int x5), .inl (.int x6)] [.inl (.int x2), .inl (.int x5)] [.inl (.int x5), .inl (.int x2)] [.inr (26, 0), .inl (.int x1), .inl (.int x2), .inl (.int x3), .inl (.int x4), .inl (.int x5), .inl (.int x6)] [] h2 rfl rfl pp_30 (by decide) (s_X3_nextSubset x5 x2 h2) (fun y3 h4 => ?_)
        refine S_blk 3 (23, [.inr (26, 0), .inl (.int x1), .inl (.int x2), .inl (.int x3), .inl (.int x4), .inl (.int y3), .inl (.int (x6 + (1 : Int32)))], [], h4) rfl ?_
        refine S_nrm [.inr (26, 0), .inl (.int x1), .inl (.int x2), .inl (.int x3), .inl (.int x4), .inl (.int y3), .inl (.int (x6 + (1 : Int32)))] rfl ?_
        exact hrc x1 x2 x3 x4 y3 (x6 + (1 : Int32)) h4
    · refine S_di 8 38 8 2 [.inr (26, 0), .inl (.int x1), .inl (.int x2), .inl (.int x3), .inl (.int x4), .inl (.int x5), .inl (.int x6)] [.inl (.int (-1 : Int32)), .inl (.int ((h2.1 8 3 3) ||| x5)), .inr (18, 0)] [.inr (18, 0), .inl (.int ((h2.1 8 3 3) ||| x5)), .inl (.int (-1 : Int32)), av0, av0, av0, av0, av0, av0] [.inr (26, 0), .inl (.int x1), .inl (.int x2), .inl (.int x3), .inl (.int x4), .inl (.int x5), .inl (.int x6)] [] h2 rfl rfl pp_8 (by decide) (s_X0_standingBy ((h2.1 8 3 3) ||| x5) (-1 : Int32) h2) (fun y5 h6 => ?_)
      refine S_di 1 40 138 0 [.inr (26, 0), .inl (.int x1), .inl (.int x2), .inl (.int x3), .inl (.int x4), .inl (.int x5), .inl (.int x6)] [.inl (.int x1), .inl (.int y5)] [.inl (.int y5), .inl (.int x1)] [.inr (26, 0), .inl (.int x1), .inl (.int x2), .inl (.int x3), .inl (.int x4), .inl (.int x5), .inl (.int x6)] [] h6 rfl rfl pp_138 (by decide) (s_X11_has y5 x1 h6) (fun y7 h8 => ?_)
      refine S_br 1 42 47 [.inr (26, 0), .inl (.int x1), .inl (.int x2), .inl (.int x3), .inl (.int x4), .inl (.int x5), .inl (.int x6)] [] h8 rfl (fun _ => ?_) (fun _ => ?_)
      · refine S_di 3 45 271 0 [.inr (26, 0), .inl (.int x1), .inl (.int x2), .inl (.int x5), .inl (.int x4), .inl (.int x5), .inl (.int x6)] [.inl (.int x5)] [.inl (.int x5)] [.inr (26, 0), .inl (.int x1), .inl (.int x2), .inl (.int x5), .inl (.int x4), .inl (.int x5), .inl (.int x6)] [] h8 rfl rfl pp_271 (by decide) (s_J6_bitCount_0f7a4 x5 h8) (fun y9 h10 => ?_)
        refine S_br 4 50 51 [.inr (26, 0), .inl (.int x1), .inl (.int x2), .inl (.int x5), .inl (.int y9), .inl (.int x5), .inl (.int x6)] [] h10 rfl (fun _ => ?_) (fun _ => ?_)
        · exact S_ri 2 (58, [av0, av0, av0, .inl (.int x5), av0, av0, av0], [.inl (.int x5)], h10) rfl rfl
        · refine S_di 2 53 30 0 [.inr (26, 0), .inl (.int x1), .inl (.int x2), .inl (.int x5), .inl (.int y9), .inl (.int x5), .inl (.int x6)] [.inl (.int x2), .inl (.int x5)] [.inl (.int x5), .inl (.int x2)] [.inr (26, 0), .inl (.int x1), .inl (.int x2), .inl (.int x5), .inl (.int y9), .inl (.int x5), .inl (.int x6)] [] h10 rfl rfl pp_30 (by decide) (s_X3_nextSubset x5 x2 h10) (fun y11 h12 => ?_)
          refine S_blk 3 (23, [.inr (26, 0), .inl (.int x1), .inl (.int x2), .inl (.int x5), .inl (.int y9), .inl (.int y11), .inl (.int (x6 + (1 : Int32)))], [], h12) rfl ?_
          refine S_nrm [.inr (26, 0), .inl (.int x1), .inl (.int x2), .inl (.int x5), .inl (.int y9), .inl (.int y11), .inl (.int (x6 + (1 : Int32)))] rfl ?_
          exact hrc x1 x2 x5 y9 y11 (x6 + (1 : Int32)) h12
      · refine S_br 3 50 51 [.inr (26, 0), .inl (.int x1), .inl (.int x2), .inl (.int x3), .inl (.int x4), .inl (.int x5), .inl (.int x6)] [] h8 rfl (fun _ => ?_) (fun _ => ?_)
        · exact S_ri 2 (58, [av0, av0, av0, .inl (.int x3), av0, av0, av0], [.inl (.int x3)], h8) rfl rfl
        · refine S_di 2 53 30 0 [.inr (26, 0), .inl (.int x1), .inl (.int x2), .inl (.int x3), .inl (.int x4), .inl (.int x5), .inl (.int x6)] [.inl (.int x2), .inl (.int x5)] [.inl (.int x5), .inl (.int x2)] [.inr (26, 0), .inl (.int x1), .inl (.int x2), .inl (.int x3), .inl (.int x4), .inl (.int x5), .inl (.int x6)] [] h8 rfl rfl pp_30 (by decide) (s_X3_nextSubset x5 x2 h8) (fun y13 h14 => ?_)
          refine S_blk 3 (23, [.inr (26, 0), .inl (.int x1), .inl (.int x2), .inl (.int x3), .inl (.int x4), .inl (.int y13), .inl (.int (x6 + (1 : Int32)))], [], h14) rfl ?_
          refine S_nrm [.inr (26, 0), .inl (.int x1), .inl (.int x2), .inl (.int x3), .inl (.int x4), .inl (.int y13), .inl (.int (x6 + (1 : Int32)))] rfl ?_
          exact hrc x1 x2 x3 x4 y13 (x6 + (1 : Int32)) h14
theorem sl_X3_fellingOf_23     : ∀ (F : Nat) (x1 : Int32) (x2 : Int32) (x3 : Int32) (x4 : Int32) (x5 : Int32) (x6 : Int32) (h : AH), Sim PP (4) k_X3_fellingOf (23, [.inr (26, 0), .inl (.int x1), .inl (.int x2), .inl (.int x3), .inl (.int x4), .inl (.int x5), .inl (.int x6)], [], h) (l_X3_fellingOf_23 F x1 x2 x3 x4 x5 x6 h) fI := by
  intro F
  induction F with
  | zero => intro x1 x2 x3 x4 x5 x6 h; exact S_none
  | succ F ih => intro x1 x2 x3 x4 x5 x6 h; exact sb_X3_fellingOf_23 (l_X3_fellingOf_23 F) x1 x2 x3 x4 x5 x6 ih h
theorem s_X3_fellingOf (x1 : Int32) (h : AH) : Sim PP (4) k_X3_fellingOf (0, [.inr (26, 0), .inl (.int x1), av0, av0, av0, av0, av0], [], h) (f_X3_fellingOf x1 h) fI := by
  unfold f_X3_fellingOf
  refine S_di 3 3 11 2 [.inr (26, 0), .inl (.int x1), av0, av0, av0, av0, av0] [.inl (.int x1), .inr (18, 0)] [.inr (18, 0), .inl (.int x1), av0, av0, av0, av0, av0] [.inr (26, 0), .inl (.int x1), av0, av0, av0, av0, av0] [] h rfl rfl pp_11 (by decide) (s_X0_reachOf x1 h) (fun y1 h2 => ?_)
  refine S_di 2 6 7 3 [.inr (26, 0), .inl (.int x1), av0, av0, av0, av0, av0] [.inr (18, 0), .inl (.int y1)] [.inr (18, 0)] [.inr (26, 0), .inl (.int x1), av0, av0, av0, av0, av0] [.inl (.int y1)] h2 rfl rfl pp_7 (by decide) (s_X0_standing  h2) (fun y3 h4 => ?_)
  refine S_blk 16 (23, [.inr (26, 0), .inl (.int x1), .inl (.int ((y1 &&& y3) &&& (((1 : Int32) <<< (x1 &&& 31)) ^^^ (-1 : Int32)))), .inl (.int (0 : Int32)), .inl (.int (4 : Int32)), .inl (.int (0 : Int32)), .inl (.int (0 : Int32))], [], h4) rfl ?_
  refine S_nrm [.inr (26, 0), .inl (.int x1), .inl (.int ((y1 &&& y3) &&& (((1 : Int32) <<< (x1 &&& 31)) ^^^ (-1 : Int32)))), .inl (.int (0 : Int32)), .inl (.int (4 : Int32)), .inl (.int (0 : Int32)), .inl (.int (0 : Int32))] rfl ?_
  exact (sl_X3_fellingOf_23  FU x1 ((y1 &&& y3) &&& (((1 : Int32) <<< (x1 &&& 31)) ^^^ (-1 : Int32))) (0 : Int32) (4 : Int32) (0 : Int32) (0 : Int32) h4)
theorem s_X11_falls (x1 : Int32) (h : AH) : Sim PP (5) k_X11_falls (0, [.inr (0, 0), .inl (.int x1), av0], [], h) (f_X11_falls x1 h) fI := by
  unfold f_X11_falls
  refine S_di 2 2 136 0 [.inr (0, 0), .inl (.int x1), av0] [.inl (.int x1), .inr (0, 0)] [.inr (0, 0), .inl (.int x1)] [.inr (0, 0), .inl (.int x1), av0] [] h rfl rfl pp_136 (by decide) (s_X11_isClaim x1 h) (fun y1 h2 => ?_)
  refine S_br 1 4 6 [.inr (0, 0), .inl (.int x1), av0] [] h2 rfl (fun _ => ?_) (fun _ => ?_)
  · exact S_ri 1 (5, [.inr (0, 0), .inl (.int x1), av0], [.inl (.int (-1 : Int32))], h2) rfl rfl
  · refine S_di 2 8 7 3 [.inr (0, 0), .inl (.int x1), av0] [.inr (18, 0)] [.inr (18, 0)] [.inr (0, 0), .inl (.int x1), av0] [] h2 rfl rfl pp_7 (by decide) (s_X0_standing  h2) (fun y3 h4 => ?_)
    refine S_di 1 10 138 0 [.inr (0, 0), .inl (.int x1), av0] [.inl (.int x1), .inl (.int y3)] [.inl (.int y3), .inl (.int x1)] [.inr (0, 0), .inl (.int x1), av0] [] h4 rfl rfl pp_138 (by decide) (s_X11_has y3 x1 h4) (fun y5 h6 => ?_)
    refine S_br 1 12 17 [.inr (0, 0), .inl (.int x1), av0] [] h6 rfl (fun _ => ?_) (fun _ => ?_)
    · exact S_ri 4 (16, [.inr (0, 0), .inl (.int x1), av0], [.inl (.int (0 : Int32))], (hsI h6 0 0 14 (0 : Int32))) rfl rfl
    · refine S_di 3 20 27 4 [.inr (0, 0), .inl (.int x1), av0] [.inl (.int x1), .inr (26, 0)] [.inr (26, 0), .inl (.int x1), av0, av0, av0, av0, av0] [.inr (0, 0), .inl (.int x1), av0] [] h6 rfl rfl pp_27 (by decide) (s_X3_fellingOf x1 h6) (fun y7 h8 => ?_)
      refine S_br 3 24 26 [.inr (0, 0), .inl (.int x1), .inl (.int y7)] [] h8 rfl (fun _ => ?_) (fun _ => ?_)
      · exact S_ri 1 (25, [.inr (0, 0), .inl (.int x1), .inl (.int y7)], [.inl (.int (-9 : Int32))], h8) rfl rfl
      · refine S_di 4 30 271 0 [.inr (0, 0), .inl (.int x1), .inl (.int y7)] [.inl (.int y7)] [.inl (.int y7)] [.inr (0, 0), .inl (.int x1), .inl (.int y7)] [] (hsI h8 0 0 14 y7) rfl rfl pp_271 (by decide) (s_J6_bitCount_0f7a4 y7 (hsI h8 0 0 14 y7)) (fun y9 h10 => ?_)
        exact S_ri 0 (31, [.inr (0, 0), .inl (.int x1), .inl (.int y7)], [.inl (.int y9)], h10) rfl rfl
theorem sb_X12_falls_20  (rc : Int32 → Int32 → Int32 → AH → Option (Int32 × AH)) (x1 : Int32) (x2 : Int32) (x3 : Int32) (hrc : ∀ (x2 : Int32) (x3 : Int32) (h : AH), Sim PP (3) k_X12_falls (20, [.inr (34, 0), .inl (.int x1), .inl (.int x2), .inl (.int x3), av0], [], h) (rc x1 x2 x3 h) (fE PP (3) k_X12_falls 58 (fun v => [.inr (34, 0), av0, .inl (.int v), av0, av0])))  (h : AH) : Sim PP (3) k_X12_falls (20, [.inr (34, 0), .inl (.int x1), .inl (.int x2), .inl (.int x3), av0], [], h) (b_X12_falls_20 rc x1 x2 x3 h) (fE PP (3) k_X12_falls 58 (fun v => [.inr (34, 0), av0, .inl (.int v), av0, av0])) := by
  unfold b_X12_falls_20
  refine S_di 2 22 191 0 [.inr (34, 0), .inl (.int x1), .inl (.int x2), .inl (.int x3), av0] [.inr (34, 0), .inl (.int x3)] [.inr (34, 0)] [.inr (34, 0), .inl (.int x1), .inl (.int x2), .inl (.int x3), av0] [.inl (.int x3)] h rfl rfl pp_191 (by decide) (s_X12_allClaims  h) (fun y1 h2 => ?_)
  refine S_br 1 58 24 [.inr (34, 0), .inl (.int x1), .inl (.int x2), .inl (.int x3), av0] [] h2 rfl (fun _ => ?_) (fun _ => ?_)
  · exact S_ex x2 (fun v => [.inr (34, 0), av0, .inl (.int v), av0, av0]) rfl
  · refine S_di 2 26 155 0 [.inr (34, 0), .inl (.int x1), .inl (.int x2), .inl (.int x3), av0] [.inl (.int x1), .inl (.int x3)] [.inl (.int x3), .inl (.int x1)] [.inr (34, 0), .inl (.int x1), .inl (.int x2), .inl (.int x3), av0] [] h2 rfl rfl pp_155 (by decide) (s_X12_has x3 x1 h2) (fun y3 h4 => ?_)
    refine S_br 1 28 42 [.inr (34, 0), .inl (.int x1), .inl (.int x2), .inl (.int x3), av0] [] h4 rfl (fun _ => ?_) (fun _ => ?_)
    · refine S_di 1 29 156 0 [.inr (34, 0), .inl (.int x1), .inl (.int x2), .inl (.int x3), av0] [.inl (.int x3)] [.inl (.int x3), av0, av0] [.inr (34, 0), .inl (.int x1), .inl (.int x2), .inl (.int x3), av0] [] h4 rfl rfl pp_156 (by decide) (s_X12_bits x3 h4) (fun y5 h6 => ?_)
      refine S_br 2 42 32 [.inr (34, 0), .inl (.int x1), .inl (.int x2), .inl (.int x3), av0] [] h6 rfl (fun _ => ?_) (fun _ => ?_)
      · refine S_bt 4 (c := (0 : Int32) = 0) 54 46 [.inr (34, 0), .inl (.int x1), .inl (.int x2), .inl (.int x3), .inl (.int (0 : Int32))] [] h6 rfl (by decide) ?_
        refine S_blk 4 (20, [.inr (34, 0), .inl (.int x1), .inl (.int x2), .inl (.int (x3 + (1 : Int32))), .inl (.int (0 : Int32))], [], h6) rfl ?_
        refine S_nrm [.inr (34, 0), .inl (.int x1), .inl (.int x2), .inl (.int (x3 + (1 : Int32))), av0] rfl ?_
        exact hrc x2 (x3 + (1 : Int32)) h6
      · refine S_br 3 40 35 [.inr (34, 0), .inl (.int x1), .inl (.int x2), .inl (.int x3), av0] [] h6 rfl (fun _ => ?_) (fun _ => ?_)
        · refine S_bf 5 (c := (1 : Int32) = 0) 54 46 [.inr (34, 0), .inl (.int x1), .inl (.int x2), .inl (.int x3), .inl (.int (1 : Int32))] [] h6 rfl (by decide) ?_
          refine S_di 2 48 203 2 [.inr (34, 0), .inl (.int x1), .inl (.int x2), .inl (.int x3), .inl (.int (1 : Int32))] [.inl (.int x3), .inr (34, 0)] [.inr (34, 0), .inl (.int x3)] [.inr (34, 0), .inl (.int x1), .inl (.int x2), .inl (.int x3), .inl (.int (1 : Int32))] [] h6 rfl rfl pp_203 (by decide) (s_X12_standWithout x3 h6) (fun y7 h8 => ?_)
          refine S_di 1 50 155 0 [.inr (34, 0), .inl (.int x1), .inl (.int x2), .inl (.int x3), .inl (.int (1 : Int32))] [.inl (.int x1), .inl (.int y7)] [.inl (.int y7), .inl (.int x1)] [.inr (34, 0), .inl (.int x1), .inl (.int x2), .inl (.int x3), .inl (.int (1 : Int32))] [] h8 rfl rfl pp_155 (by decide) (s_X12_has y7 x1 h8) (fun y9 h10 => ?_)
          refine S_br 1 52 54 [.inr (34, 0), .inl (.int x1), .inl (.int x2), .inl (.int x3), .inl (.int (1 : Int32))] [] h10 rfl (fun _ => ?_) (fun _ => ?_)
          · refine S_blk 5 (20, [.inr (34, 0), .inl (.int x1), .inl (.int x3), .inl (.int (x3 + (1 : Int32))), .inl (.int (1 : Int32))], [], h10) rfl ?_
            refine S_nrm [.inr (34, 0), .inl (.int x1), .inl (.int x3), .inl (.int (x3 + (1 : Int32))), av0] rfl ?_
            exact hrc x3 (x3 + (1 : Int32)) h10
          · refine S_blk 4 (20, [.inr (34, 0), .inl (.int x1), .inl (.int x2), .inl (.int (x3 + (1 : Int32))), .inl (.int (1 : Int32))], [], h10) rfl ?_
            refine S_nrm [.inr (34, 0), .inl (.int x1), .inl (.int x2), .inl (.int (x3 + (1 : Int32))), av0] rfl ?_
            exact hrc x2 (x3 + (1 : Int32)) h10
        · refine S_di 1 36 156 0 [.inr (34, 0), .inl (.int x1), .inl (.int x2), .inl (.int x3), av0] [.inl (.int x3)] [.inl (.int x3), av0, av0] [.inr (34, 0), .inl (.int x1), .inl (.int x2), .inl (.int x3), av0] [] h6 rfl rfl pp_156 (by decide) (s_X12_bits x3 h6) (fun y11 h12 => ?_)
          refine S_di 1 38 156 0 [.inr (34, 0), .inl (.int x1), .inl (.int x2), .inl (.int x3), av0] [.inl (.int x2), .inl (.int y11)] [.inl (.int x2), av0, av0] [.inr (34, 0), .inl (.int x1), .inl (.int x2), .inl (.int x3), av0] [.inl (.int y11)] h12 rfl rfl pp_156 (by decide) (s_X12_bits x2 h12) (fun y13 h14 => ?_)
          refine S_br 1 42 40 [.inr (34, 0), .inl (.int x1), .inl (.int x2), .inl (.int x3), av0] [] h14 rfl (fun _ => ?_) (fun _ => ?_)
          · refine S_bt 4 (c := (0 : Int32) = 0) 54 46 [.inr (34, 0), .inl (.int x1), .inl (.int x2), .inl (.int x3), .inl (.int (0 : Int32))] [] h14 rfl (by decide) ?_
            refine S_blk 4 (20, [.inr (34, 0), .inl (.int x1), .inl (.int x2), .inl (.int (x3 + (1 : Int32))), .inl (.int (0 : Int32))], [], h14) rfl ?_
            refine S_nrm [.inr (34, 0), .inl (.int x1), .inl (.int x2), .inl (.int (x3 + (1 : Int32))), av0] rfl ?_
            exact hrc x2 (x3 + (1 : Int32)) h14
          · refine S_bf 5 (c := (1 : Int32) = 0) 54 46 [.inr (34, 0), .inl (.int x1), .inl (.int x2), .inl (.int x3), .inl (.int (1 : Int32))] [] h14 rfl (by decide) ?_
            refine S_di 2 48 203 2 [.inr (34, 0), .inl (.int x1), .inl (.int x2), .inl (.int x3), .inl (.int (1 : Int32))] [.inl (.int x3), .inr (34, 0)] [.inr (34, 0), .inl (.int x3)] [.inr (34, 0), .inl (.int x1), .inl (.int x2), .inl (.int x3), .inl (.int (1 : Int32))] [] h14 rfl rfl pp_203 (by decide) (s_X12_standWithout x3 h14) (fun y15 h16 => ?_)
            refine S_di 1 50 155 0 [.inr (34, 0), .inl (.int x1), .inl (.int x2), .inl (.int x3), .inl (.int (1 : Int32))] [.inl (.int x1), .inl (.int y15)] [.inl (.int y15), .inl (.int x1)] [.inr (34, 0), .inl (.int x1), .inl (.int x2), .inl (.int x3), .inl (.int (1 : Int32))] [] h16 rfl rfl pp_155 (by decide) (s_X12_has y15 x1 h16) (fun y17 h18 => ?_)
            refine S_br 1 52 54 [.inr (34, 0), .inl (.int x1), .inl (.int x2), .inl (.int x3), .inl (.int (1 : Int32))] [] h18 rfl (fun _ => ?_) (fun _ => ?_)
            · refine S_blk 5 (20, [.inr (34, 0), .inl (.int x1), .inl (.int x3), .inl (.int (x3 + (1 : Int32))), .inl (.int (1 : Int32))], [], h18) rfl ?_
              refine S_nrm [.inr (34, 0), .inl (.int x1), .inl (.int x3), .inl (.int (x3 + (1 : Int32))), av0] rfl ?_
              exact hrc x3 (x3 + (1 : Int32)) h18
            · refine S_blk 4 (20, [.inr (34, 0), .inl (.int x1), .inl (.int x2), .inl (.int (x3 + (1 : Int32))), .inl (.int (1 : Int32))], [], h18) rfl ?_
              refine S_nrm [.inr (34, 0), .inl (.int x1), .inl (.int x2), .inl (.int (x3 + (1 : Int32))), av0] rfl ?_
              exact hrc x2 (x3 + (1 : Int32)) h18
    · refine S_bt 4 (c := (0 : Int32) = 0) 54 46 [.inr (34, 0), .inl (.int x1), .inl (.int x2), .inl (.int x3), .inl (.int (0 : Int32))] [] h4 rfl (by decide) ?_
      refine S_blk 4 (20, [.inr (34, 0), .inl (.int x1), .inl (.int x2), .inl (.int (x3 + (1 : Int32))), .inl (.int (0 : Int32))], [], h4) rfl ?_
      refine S_nrm [.inr (34, 0), .inl (.int x1), .inl (.int x2), .inl (.int (x3 + (1 : Int32))), av0] rfl ?_
      exact hrc x2 (x3 + (1 : Int32)) h4
theorem sl_X12_falls_20    (x1 : Int32) : ∀ (F : Nat) (x2 : Int32) (x3 : Int32) (h : AH), Sim PP (3) k_X12_falls (20, [.inr (34, 0), .inl (.int x1), .inl (.int x2), .inl (.int x3), av0], [], h) (l_X12_falls_20 F x1 x2 x3 h) (fE PP (3) k_X12_falls 58 (fun v => [.inr (34, 0), av0, .inl (.int v), av0, av0])) := by
  intro F
  induction F with
  | zero => intro x2 x3 h; exact S_none
  | succ F ih => intro x2 x3 h; exact sb_X12_falls_20 (l_X12_falls_20 F) x1 x2 x3 ih h
theorem sc_X12_falls_58    (x2 : Int32)  (h : AH) : Sim PP (3) k_X12_falls (58, [.inr (34, 0), av0, .inl (.int x2), av0, av0], [], h) (c_X12_falls_58  x2 h) fI := by
  unfold c_X12_falls_58
  refine S_br 3 61 63 [.inr (34, 0), av0, .inl (.int x2), av0, av0] [] h rfl (fun _ => ?_) (fun _ => ?_)
  · exact S_ri 2 (68, [.inr (34, 0), av0, .inl (.int x2), av0, av0], [.inl (.int (-9 : Int32))], h) rfl rfl
  · refine S_di 3 66 156 0 [.inr (34, 0), av0, .inl (.int x2), av0, av0] [.inl (.int x2), .inl (.int x2), .inr (34, 0)] [.inl (.int x2), av0, av0] [.inr (34, 0), av0, .inl (.int x2), av0, av0] [.inl (.int x2), .inr (34, 0)] h rfl rfl pp_156 (by decide) (s_X12_bits x2 h) (fun y1 h2 => ?_)
    refine S_di 0 67 162 0 [.inr (34, 0), av0, .inl (.int x2), av0, av0] [.inl (.int y1), .inl (.int x2), .inr (34, 0)] [.inr (34, 0), .inl (.int x2), .inl (.int y1)] [.inr (34, 0), av0, .inl (.int x2), av0, av0] [] h2 rfl rfl pp_162 (by decide) (s_X12_tells x2 y1 h2) (fun y3 h4 => ?_)
    exact S_ri 0 (68, [.inr (34, 0), av0, .inl (.int x2), av0, av0], [.inl (.int y3)], h4) rfl rfl
theorem s_X12_falls (x1 : Int32) (h : AH) : Sim PP (3) k_X12_falls (0, [.inr (34, 0), .inl (.int x1), av0, av0, av0], [], h) (f_X12_falls x1 h) fI := by
  unfold f_X12_falls
  refine S_di 2 2 189 1 [.inr (34, 0), .inl (.int x1), av0, av0, av0] [.inl (.int x1), .inr (34, 0)] [.inr (34, 0), .inl (.int x1)] [.inr (34, 0), .inl (.int x1), av0, av0, av0] [] h rfl rfl pp_189 (by decide) (s_X12_isClaim x1 h) (fun y1 h2 => ?_)
  refine S_br 1 4 6 [.inr (34, 0), .inl (.int x1), av0, av0, av0] [] h2 rfl (fun _ => ?_) (fun _ => ?_)
  · exact S_ri 1 (5, [.inr (34, 0), .inl (.int x1), av0, av0, av0], [.inl (.int (-1 : Int32))], h2) rfl rfl
  · refine S_di 1 7 202 2 [.inr (34, 0), .inl (.int x1), av0, av0, av0] [.inr (34, 0)] [.inr (34, 0)] [.inr (34, 0), .inl (.int x1), av0, av0, av0] [] h2 rfl rfl pp_202 (by decide) (s_X12_standNow  h2) (fun y3 h4 => ?_)
    refine S_di 1 9 155 0 [.inr (34, 0), .inl (.int x1), av0, av0, av0] [.inl (.int x1), .inl (.int y3)] [.inl (.int y3), .inl (.int x1)] [.inr (34, 0), .inl (.int x1), av0, av0, av0] [] h4 rfl rfl pp_155 (by decide) (s_X12_has y3 x1 h4) (fun y5 h6 => ?_)
    refine S_br 1 11 16 [.inr (34, 0), .inl (.int x1), av0, av0, av0] [] h6 rfl (fun _ => ?_) (fun _ => ?_)
    · refine S_di 3 14 162 0 [.inr (34, 0), .inl (.int x1), av0, av0, av0] [.inl (.int (0 : Int32)), .inl (.int (0 : Int32)), .inr (34, 0)] [.inr (34, 0), .inl (.int (0 : Int32)), .inl (.int (0 : Int32))] [.inr (34, 0), .inl (.int x1), av0, av0, av0] [] h6 rfl rfl pp_162 (by decide) (s_X12_tells (0 : Int32) (0 : Int32) h6) (fun y7 h8 => ?_)
      exact S_ri 0 (15, [.inr (34, 0), .inl (.int x1), av0, av0, av0], [.inl (.int y7)], h8) rfl rfl
    · refine S_blk 4 (20, [.inr (34, 0), .inl (.int x1), .inl (.int (-9 : Int32)), .inl (.int (0 : Int32)), av0], [], h6) rfl ?_
      refine S_nrm [.inr (34, 0), .inl (.int x1), .inl (.int (-9 : Int32)), .inl (.int (0 : Int32)), av0] rfl ?_
      refine S_lp 58 (fun v => [.inr (34, 0), av0, .inl (.int v), av0, av0]) (sl_X12_falls_20 x1 FU (-9 : Int32) (0 : Int32) h6) (fun v h => ?_)
      exact sc_X12_falls_58 v h
theorem sb_J7_fill_53178_enough_5  (rc : Int32 → Int32 → Int32 → AH → Option (Unit × AH)) (x1 : Int32) (x2 : Int32) (x3 : Int32) (hrc : ∀ (x2 : Int32) (h : AH), Sim PP (0) k_J7_fill_53178 (5, [.inr (27, 0), .inl (.int x1), .inl (.int x2), .inl (.int x3)], [], h) (rc x1 x2 x3 h) (fE PP (0) k_J7_fill_53178 14 (fun v => [av0, av0, av0, av0])))  (h : AH) : Sim PP (0) k_J7_fill_53178 (5, [.inr (27, 0), .inl (.int x1), .inl (.int x2), .inl (.int x3)], [], h) (b_J7_fill_53178_enough_5 rc x1 x2 x3 h) (fE PP (0) k_J7_fill_53178 14 (fun v => [av0, av0, av0, av0])) := by
  unfold b_J7_fill_53178_enough_5
  refine S_br 3 14 8 [.inr (27, 0), .inl (.int x1), .inl (.int x2), .inl (.int x3)] [] h rfl (fun _ => ?_) (fun _ => ?_)
  · exact S_ex () (fun v => [av0, av0, av0, av0]) rfl
  · refine S_grd 4 (12, [.inr (27, 0), .inl (.int x1), .inl (.int x2), .inl (.int x3)], [], (hsI h 27 0 x2.toNatClampNeg x1)) rfl (fun _ => ?_)
    refine S_blk 2 (5, [.inr (27, 0), .inl (.int x1), .inl (.int (x2 + (1 : Int32))), .inl (.int x3)], [], (hsI h 27 0 x2.toNatClampNeg x1)) rfl ?_
    refine S_nrm [.inr (27, 0), .inl (.int x1), .inl (.int (x2 + (1 : Int32))), .inl (.int x3)] rfl ?_
    exact hrc (x2 + (1 : Int32)) (hsI h 27 0 x2.toNatClampNeg x1)
theorem sl_J7_fill_53178_enough_5    (x1 : Int32) (x3 : Int32) : ∀ (F : Nat) (x2 : Int32) (h : AH), Sim PP (0) k_J7_fill_53178 (5, [.inr (27, 0), .inl (.int x1), .inl (.int x2), .inl (.int x3)], [], h) (l_J7_fill_53178_enough_5 F x1 x2 x3 h) (fE PP (0) k_J7_fill_53178 14 (fun v => [av0, av0, av0, av0])) := by
  intro F
  induction F with
  | zero => intro x2 h; exact S_none
  | succ F ih => intro x2 h; exact sb_J7_fill_53178_enough_5 (l_J7_fill_53178_enough_5 F) x1 x2 x3 ih h
theorem sc_J7_fill_53178_enough_14      (h : AH) : Sim PP (0) k_J7_fill_53178 (14, [av0, av0, av0, av0], [], h) (c_J7_fill_53178_enough_14   h) fV := by
  unfold c_J7_fill_53178_enough_14
  exact S_rv 0 (14, [av0, av0, av0, av0], [], h) rfl rfl
theorem s_J7_fill_53178_enough (x1 : Int32) (h : AH) : Sim PP (0) k_J7_fill_53178 (0, [.inr (27, 0), .inl (.int x1), av0, av0], [], h) (f_J7_fill_53178_enough x1 h) fV := by
  unfold f_J7_fill_53178_enough
  refine S_blk 5 (5, [.inr (27, 0), .inl (.int x1), .inl (.int (0 : Int32)), .inl (.int (nI 32))], [], h) rfl ?_
  refine S_nrm [.inr (27, 0), .inl (.int x1), .inl (.int (0 : Int32)), .inl (.int (nI 32))] rfl ?_
  refine S_lp 14 (fun v => [av0, av0, av0, av0]) (sl_J7_fill_53178_enough_5 x1 (nI 32) FU (0 : Int32) h) (fun v h => ?_)
  exact sc_J7_fill_53178_enough_14 h
theorem s_X3_isEnough (x1 : Int32) (h : AH) : Sim PP (1) k_X3_isEnough (0, [.inr (26, 0), .inl (.int x1), av0], [], h) (f_X3_isEnough x1 h) fI := by
  unfold f_X3_isEnough
  refine S_gn 3 (c := (32 : Int32) = 0) (3, [.inr (26, 0), .inl (.int x1), av0], [.inl (.int (x1 / (32 : Int32)))], h) rfl (by decide) ?_
  refine S_br 3 22 6 [.inr (26, 0), .inl (.int x1), .inl (.int (x1 / (32 : Int32)))] [] h rfl (fun _ => ?_) (fun _ => ?_)
  · exact S_ri 1 (23, [.inr (26, 0), .inl (.int x1), .inl (.int (x1 / (32 : Int32)))], [.inl (.int (0 : Int32))], h) rfl rfl
  · refine S_br 5 22 11 [.inr (26, 0), .inl (.int x1), .inl (.int (x1 / (32 : Int32)))] [] h rfl (fun _ => ?_) (fun _ => ?_)
    · exact S_ri 1 (23, [.inr (26, 0), .inl (.int x1), .inl (.int (x1 / (32 : Int32)))], [.inl (.int (0 : Int32))], h) rfl rfl
    · refine S_grd 4 (15, [.inr (26, 0), .inl (.int x1), .inl (.int (x1 / (32 : Int32)))], [.inl (.int (h.1 27 0 (x1 / (32 : Int32)).toNatClampNeg))], h) rfl (fun _ => ?_)
      refine S_gn 3 (c := (32 : Int32) = 0) (18, [.inr (26, 0), .inl (.int x1), .inl (.int (x1 / (32 : Int32)))], [.inl (.int (x1 - x1 / (32 : Int32) * (32 : Int32))), .inl (.int (h.1 27 0 (x1 / (32 : Int32)).toNatClampNeg))], h) rfl (by decide) ?_
      refine S_di 0 18 138 0 [.inr (26, 0), .inl (.int x1), .inl (.int (x1 / (32 : Int32)))] [.inl (.int (x1 - x1 / (32 : Int32) * (32 : Int32))), .inl (.int (h.1 27 0 (x1 / (32 : Int32)).toNatClampNeg))] [.inl (.int (h.1 27 0 (x1 / (32 : Int32)).toNatClampNeg)), .inl (.int (x1 - x1 / (32 : Int32) * (32 : Int32)))] [.inr (26, 0), .inl (.int x1), .inl (.int (x1 / (32 : Int32)))] [] h rfl rfl pp_138 (by decide) (s_X11_has (h.1 27 0 (x1 / (32 : Int32)).toNatClampNeg) (x1 - x1 / (32 : Int32) * (32 : Int32)) h) (fun y1 h2 => ?_)
      refine S_br 1 22 20 [.inr (26, 0), .inl (.int x1), .inl (.int (x1 / (32 : Int32)))] [] h2 rfl (fun _ => ?_) (fun _ => ?_)
      · exact S_ri 1 (23, [.inr (26, 0), .inl (.int x1), .inl (.int (x1 / (32 : Int32)))], [.inl (.int (0 : Int32))], h2) rfl rfl
      · exact S_ri 2 (23, [.inr (26, 0), .inl (.int x1), .inl (.int (x1 / (32 : Int32)))], [.inl (.int (1 : Int32))], h2) rfl rfl
theorem sb_X3_isEnoughWithOneLess_2  (rc : Int32 → Int32 → AH → Option (Int32 × AH)) (x1 : Int32) (x2 : Int32) (hrc : ∀ (x1 : Int32) (x2 : Int32) (h : AH), Sim PP (2) k_X3_isEnoughWithOneLess (2, [.inr (26, 0), .inl (.int x1), .inl (.int x2)], [], h) (rc x1 x2 h) fI)  (h : AH) : Sim PP (2) k_X3_isEnoughWithOneLess (2, [.inr (26, 0), .inl (.int x1), .inl (.int x2)], [], h) (b_X3_isEnoughWithOneLess_2 rc x1 x2 h) fI := by
  unfold b_X3_isEnoughWithOneLess_2
  refine S_br 5 25 7 [.inr (26, 0), .inl (.int x1), .inl (.int x2)] [] h rfl (fun _ => ?_) (fun _ => ?_)
  · exact S_ri 1 (26, [av0, av0, av0], [.inl (.int (0 : Int32))], h) rfl rfl
  · refine S_di 2 9 138 0 [.inr (26, 0), .inl (.int x1), .inl (.int x2)] [.inl (.int x2), .inl (.int x1)] [.inl (.int x1), .inl (.int x2)] [.inr (26, 0), .inl (.int x1), .inl (.int x2)] [] h rfl rfl pp_138 (by decide) (s_X11_has x1 x2 h) (fun y1 h2 => ?_)
    refine S_br 1 23 11 [.inr (26, 0), .inl (.int x1), .inl (.int x2)] [] h2 rfl (fun _ => ?_) (fun _ => ?_)
    · refine S_blk 2 (2, [.inr (26, 0), .inl (.int x1), .inl (.int (x2 + (1 : Int32)))], [], h2) rfl ?_
      refine S_nrm [.inr (26, 0), .inl (.int x1), .inl (.int (x2 + (1 : Int32)))] rfl ?_
      exact hrc x1 (x2 + (1 : Int32)) h2
    · refine S_di 8 19 32 1 [.inr (26, 0), .inl (.int x1), .inl (.int x2)] [.inl (.int (x1 &&& (((1 : Int32) <<< (x2 &&& 31)) ^^^ (-1 : Int32)))), .inr (26, 0)] [.inr (26, 0), .inl (.int (x1 &&& (((1 : Int32) <<< (x2 &&& 31)) ^^^ (-1 : Int32)))), av0] [.inr (26, 0), .inl (.int x1), .inl (.int x2)] [] h2 rfl rfl pp_32 (by decide) (s_X3_isEnough (x1 &&& (((1 : Int32) <<< (x2 &&& 31)) ^^^ (-1 : Int32))) h2) (fun y3 h4 => ?_)
      refine S_br 1 23 21 [.inr (26, 0), .inl (.int x1), .inl (.int x2)] [] h4 rfl (fun _ => ?_) (fun _ => ?_)
      · refine S_blk 2 (2, [.inr (26, 0), .inl (.int x1), .inl (.int (x2 + (1 : Int32)))], [], h4) rfl ?_
        refine S_nrm [.inr (26, 0), .inl (.int x1), .inl (.int (x2 + (1 : Int32)))] rfl ?_
        exact hrc x1 (x2 + (1 : Int32)) h4
      · exact S_ri 1 (22, [av0, av0, av0], [.inl (.int (1 : Int32))], h4) rfl rfl
theorem sl_X3_isEnoughWithOneLess_2     : ∀ (F : Nat) (x1 : Int32) (x2 : Int32) (h : AH), Sim PP (2) k_X3_isEnoughWithOneLess (2, [.inr (26, 0), .inl (.int x1), .inl (.int x2)], [], h) (l_X3_isEnoughWithOneLess_2 F x1 x2 h) fI := by
  intro F
  induction F with
  | zero => intro x1 x2 h; exact S_none
  | succ F ih => intro x1 x2 h; exact sb_X3_isEnoughWithOneLess_2 (l_X3_isEnoughWithOneLess_2 F) x1 x2 ih h
theorem s_X3_isEnoughWithOneLess (x1 : Int32) (h : AH) : Sim PP (2) k_X3_isEnoughWithOneLess (0, [.inr (26, 0), .inl (.int x1), av0], [], h) (f_X3_isEnoughWithOneLess x1 h) fI := by
  unfold f_X3_isEnoughWithOneLess
  refine S_blk 2 (2, [.inr (26, 0), .inl (.int x1), .inl (.int (0 : Int32))], [], h) rfl ?_
  refine S_nrm [.inr (26, 0), .inl (.int x1), .inl (.int (0 : Int32))] rfl ?_
  exact (sl_X3_isEnoughWithOneLess_2  FU x1 (0 : Int32) h)
theorem s_X3_markEnough (x1 : Int32) (x2 : Int32) (h : AH) : Sim PP (0) k_X3_markEnough (0, [.inr (26, 0), .inl (.int x1), .inl (.int x2), av0], [], h) (f_X3_markEnough x1 x2 h) fV := by
  unfold f_X3_markEnough
  refine S_gn 3 (c := (32 : Int32) = 0) (3, [.inr (26, 0), .inl (.int x1), .inl (.int x2), av0], [.inl (.int (x1 / (32 : Int32)))], h) rfl (by decide) ?_
  refine S_br 3 25 6 [.inr (26, 0), .inl (.int x1), .inl (.int x2), .inl (.int (x1 / (32 : Int32)))] [] h rfl (fun _ => ?_) (fun _ => ?_)
  · exact S_rv 0 (25, [.inr (26, 0), .inl (.int x1), .inl (.int x2), .inl (.int (x1 / (32 : Int32)))], [], h) rfl rfl
  · refine S_br 2 25 8 [.inr (26, 0), .inl (.int x1), .inl (.int x2), .inl (.int (x1 / (32 : Int32)))] [] h rfl (fun _ => ?_) (fun _ => ?_)
    · exact S_rv 0 (25, [.inr (26, 0), .inl (.int x1), .inl (.int x2), .inl (.int (x1 / (32 : Int32)))], [], h) rfl rfl
    · refine S_br 5 25 13 [.inr (26, 0), .inl (.int x1), .inl (.int x2), .inl (.int (x1 / (32 : Int32)))] [] h rfl (fun _ => ?_) (fun _ => ?_)
      · exact S_rv 0 (25, [.inr (26, 0), .inl (.int x1), .inl (.int x2), .inl (.int (x1 / (32 : Int32)))], [], h) rfl rfl
      · refine S_grd 5 (18, [.inr (26, 0), .inl (.int x1), .inl (.int x2), .inl (.int (x1 / (32 : Int32)))], [.inl (.int (h.1 27 0 (x1 / (32 : Int32)).toNatClampNeg)), .inl (.int (x1 / (32 : Int32))), .inr (27, 0)], h) rfl (fun _ => ?_)
        refine S_gn 4 (c := (32 : Int32) = 0) (22, [.inr (26, 0), .inl (.int x1), .inl (.int x2), .inl (.int (x1 / (32 : Int32)))], [.inl (.int (x1 - x1 / (32 : Int32) * (32 : Int32))), .inl (.int (1 : Int32)), .inl (.int (h.1 27 0 (x1 / (32 : Int32)).toNatClampNeg)), .inl (.int (x1 / (32 : Int32))), .inr (27, 0)], h) rfl (by decide) ?_
        refine S_grd 3 (25, [.inr (26, 0), .inl (.int x1), .inl (.int x2), .inl (.int (x1 / (32 : Int32)))], [], (hsI h 27 0 (x1 / (32 : Int32)).toNatClampNeg ((h.1 27 0 (x1 / (32 : Int32)).toNatClampNeg) ||| ((1 : Int32) <<< ((x1 - x1 / (32 : Int32) * (32 : Int32)) &&& 31))))) rfl (fun _ => ?_)
        exact S_rv 0 (25, [.inr (26, 0), .inl (.int x1), .inl (.int x2), .inl (.int (x1 / (32 : Int32)))], [], (hsI h 27 0 (x1 / (32 : Int32)).toNatClampNeg ((h.1 27 0 (x1 / (32 : Int32)).toNatClampNeg) ||| ((1 : Int32) <<< ((x1 - x1 / (32 : Int32) * (32 : Int32)) &&& 31))))) rfl rfl
theorem sb_X3_actsSomeWay_27  (rc : Int32 → Int32 → Int32 → Int32 → Int32 → Int32 → AH → Option (Int32 × AH)) (x1 : Int32) (x2 : Int32) (x3 : Int32) (x4 : Int32) (x5 : Int32) (x6 : Int32) (hrc : ∀ (x1 : Int32) (x2 : Int32) (x3 : Int32) (x4 : Int32) (x5 : Int32) (x6 : Int32) (h : AH), Sim PP (4) k_X3_actsSomeWay (27, [.inr (26, 0), .inl (.int x1), .inl (.int x2), .inl (.int x3), .inl (.int x4), .inl (.int x5), .inl (.int x6), av0, av0], [], h) (rc x1 x2 x3 x4 x5 x6 h) fI)  (h : AH) : Sim PP (4) k_X3_actsSomeWay (27, [.inr (26, 0), .inl (.int x1), .inl (.int x2), .inl (.int x3), .inl (.int x4), .inl (.int x5), .inl (.int x6), av0, av0], [], h) (b_X3_actsSomeWay_27 rc x1 x2 x3 x4 x5 x6 h) fI := by
  unfold b_X3_actsSomeWay_27
  refine S_br 3 76 30 [.inr (26, 0), .inl (.int x1), .inl (.int x2), .inl (.int x3), .inl (.int x4), .inl (.int x5), .inl (.int x6), av0, av0] [] h rfl (fun _ => ?_) (fun _ => ?_)
  · refine S_di 4 80 51 1 [.inr (26, 0), av0, av0, av0, .inl (.int x4), av0, av0, av0, av0] [.inl (.int (3 : Int32)), .inr (12, 0), .inl (.int x4)] [.inr (12, 0), .inl (.int (3 : Int32))] [.inr (26, 0), av0, av0, av0, .inl (.int x4), av0, av0, av0, av0] [.inl (.int x4)] h rfl rfl pp_51 (by decide) (s_X6_bitsOf 0 (3 : Int32) h) (fun y1 h2 => ?_)
    exact S_ri 1 (82, [.inr (26, 0), av0, av0, av0, .inl (.int x4), av0, av0, av0, av0], [.inl (.int (x4 &&& y1))], h2) rfl rfl
  · refine S_di 2 32 31 2 [.inr (26, 0), .inl (.int x1), .inl (.int x2), .inl (.int x3), .inl (.int x4), .inl (.int x5), .inl (.int x6), av0, av0] [.inl (.int x5), .inr (26, 0)] [.inr (26, 0), .inl (.int x5), av0] [.inr (26, 0), .inl (.int x1), .inl (.int x2), .inl (.int x3), .inl (.int x4), .inl (.int x5), .inl (.int x6), av0, av0] [] h rfl rfl pp_31 (by decide) (s_X3_isEnoughWithOneLess x5 h) (fun y3 h4 => ?_)
    refine S_br 3 36 48 [.inr (26, 0), .inl (.int x1), .inl (.int x2), .inl (.int x3), .inl (.int x4), .inl (.int x5), .inl (.int x6), .inl (.int y3), av0] [] h4 rfl (fun _ => ?_) (fun _ => ?_)
    · refine S_di 8 44 8 2 [.inr (26, 0), .inl (.int x1), .inl (.int x2), .inl (.int x3), .inl (.int x4), .inl (.int x5), .inl (.int x6), .inl (.int y3), av0] [.inl (.int (-1 : Int32)), .inl (.int ((x5 ||| x2) ^^^ (-1 : Int32))), .inr (18, 0)] [.inr (18, 0), .inl (.int ((x5 ||| x2) ^^^ (-1 : Int32))), .inl (.int (-1 : Int32)), av0, av0, av0, av0, av0, av0] [.inr (26, 0), .inl (.int x1), .inl (.int x2), .inl (.int x3), .inl (.int x4), .inl (.int x5), .inl (.int x6), .inl (.int y3), av0] [] h4 rfl rfl pp_8 (by decide) (s_X0_standingBy ((x5 ||| x2) ^^^ (-1 : Int32)) (-1 : Int32) h4) (fun y5 h6 => ?_)
      refine S_di 1 46 138 0 [.inr (26, 0), .inl (.int x1), .inl (.int x2), .inl (.int x3), .inl (.int x4), .inl (.int x5), .inl (.int x6), .inl (.int y3), av0] [.inl (.int x1), .inl (.int y5)] [.inl (.int y5), .inl (.int x1)] [.inr (26, 0), .inl (.int x1), .inl (.int x2), .inl (.int x3), .inl (.int x4), .inl (.int x5), .inl (.int x6), .inl (.int y3), av0] [] h6 rfl rfl pp_138 (by decide) (s_X11_has y5 x1 h6) (fun y7 h8 => ?_)
      refine S_br 1 50 48 [.inr (26, 0), .inl (.int x1), .inl (.int x2), .inl (.int x3), .inl (.int x4), .inl (.int x5), .inl (.int x6), .inl (.int y3), av0] [] h8 rfl (fun _ => ?_) (fun _ => ?_)
      · refine S_bt 5 (c := (0 : Int32) = 0) 59 55 [.inr (26, 0), .inl (.int x1), .inl (.int x2), .inl (.int x3), .inl (.int x4), .inl (.int x5), .inl (.int x6), .inl (.int y3), .inl (.int (0 : Int32))] [.inl (.int x4)] h8 rfl (by decide) ?_
        refine S_dv 6 65 33 0 [.inr (26, 0), .inl (.int x1), .inl (.int x2), .inl (.int x3), .inl (.int (x4 ||| (0 : Int32))), .inl (.int x5), .inl (.int x6), .inl (.int y3), .inl (.int (0 : Int32))] [.inl (.int (0 : Int32)), .inl (.int x5), .inr (26, 0)] [.inr (26, 0), .inl (.int x5), .inl (.int (0 : Int32)), av0] [.inr (26, 0), .inl (.int x1), .inl (.int x2), .inl (.int x3), .inl (.int (x4 ||| (0 : Int32))), .inl (.int x5), .inl (.int x6), .inl (.int y3), .inl (.int (0 : Int32))] [] h8 rfl rfl pp_33 (by decide) (s_X3_markEnough x5 (0 : Int32) h8) (fun _ h10 => ?_)
        refine S_br 3 69 70 [.inr (26, 0), .inl (.int x1), .inl (.int x2), .inl (.int x3), .inl (.int (x4 ||| (0 : Int32))), .inl (.int x5), .inl (.int x6), .inl (.int y3), .inl (.int (0 : Int32))] [] h10 rfl (fun _ => ?_) (fun _ => ?_)
        · refine S_di 5 80 51 1 [.inr (26, 0), av0, av0, av0, .inl (.int (x4 ||| (0 : Int32))), av0, av0, av0, av0] [.inl (.int (3 : Int32)), .inr (12, 0), .inl (.int (x4 ||| (0 : Int32)))] [.inr (12, 0), .inl (.int (3 : Int32))] [.inr (26, 0), av0, av0, av0, .inl (.int (x4 ||| (0 : Int32))), av0, av0, av0, av0] [.inl (.int (x4 ||| (0 : Int32)))] h10 rfl rfl pp_51 (by decide) (s_X6_bitsOf 0 (3 : Int32) h10) (fun y11 h12 => ?_)
          exact S_ri 1 (82, [.inr (26, 0), av0, av0, av0, .inl (.int (x4 ||| (0 : Int32))), av0, av0, av0, av0], [.inl (.int ((x4 ||| (0 : Int32)) &&& y11))], h12) rfl rfl
        · refine S_di 2 72 30 0 [.inr (26, 0), .inl (.int x1), .inl (.int x2), .inl (.int x3), .inl (.int (x4 ||| (0 : Int32))), .inl (.int x5), .inl (.int x6), .inl (.int y3), .inl (.int (0 : Int32))] [.inl (.int x3), .inl (.int x5)] [.inl (.int x5), .inl (.int x3)] [.inr (26, 0), .inl (.int x1), .inl (.int x2), .inl (.int x3), .inl (.int (x4 ||| (0 : Int32))), .inl (.int x5), .inl (.int x6), .inl (.int y3), .inl (.int (0 : Int32))] [] h10 rfl rfl pp_30 (by decide) (s_X3_nextSubset x5 x3 h10) (fun y13 h14 => ?_)
          refine S_blk 3 (27, [.inr (26, 0), .inl (.int x1), .inl (.int x2), .inl (.int x3), .inl (.int (x4 ||| (0 : Int32))), .inl (.int y13), .inl (.int (x6 + (1 : Int32))), .inl (.int y3), .inl (.int (0 : Int32))], [], h14) rfl ?_
          refine S_nrm [.inr (26, 0), .inl (.int x1), .inl (.int x2), .inl (.int x3), .inl (.int (x4 ||| (0 : Int32))), .inl (.int y13), .inl (.int (x6 + (1 : Int32))), av0, av0] rfl ?_
          exact hrc x1 x2 x3 (x4 ||| (0 : Int32)) y13 (x6 + (1 : Int32)) h14
      · refine S_bf 6 (c := (1 : Int32) = 0) 59 55 [.inr (26, 0), .inl (.int x1), .inl (.int x2), .inl (.int x3), .inl (.int x4), .inl (.int x5), .inl (.int x6), .inl (.int y3), .inl (.int (1 : Int32))] [.inl (.int x4)] h8 rfl (by decide) ?_
        refine S_br 2 57 59 [.inr (26, 0), .inl (.int x1), .inl (.int x2), .inl (.int x3), .inl (.int x4), .inl (.int x5), .inl (.int x6), .inl (.int y3), .inl (.int (1 : Int32))] [.inl (.int x4)] h8 rfl (fun _ => ?_) (fun _ => ?_)
        · refine S_dv 7 65 33 0 [.inr (26, 0), .inl (.int x1), .inl (.int x2), .inl (.int x3), .inl (.int (x4 ||| x5)), .inl (.int x5), .inl (.int x6), .inl (.int y3), .inl (.int (1 : Int32))] [.inl (.int (1 : Int32)), .inl (.int x5), .inr (26, 0)] [.inr (26, 0), .inl (.int x5), .inl (.int (1 : Int32)), av0] [.inr (26, 0), .inl (.int x1), .inl (.int x2), .inl (.int x3), .inl (.int (x4 ||| x5)), .inl (.int x5), .inl (.int x6), .inl (.int y3), .inl (.int (1 : Int32))] [] h8 rfl rfl pp_33 (by decide) (s_X3_markEnough x5 (1 : Int32) h8) (fun _ h16 => ?_)
          refine S_br 3 69 70 [.inr (26, 0), .inl (.int x1), .inl (.int x2), .inl (.int x3), .inl (.int (x4 ||| x5)), .inl (.int x5), .inl (.int x6), .inl (.int y3), .inl (.int (1 : Int32))] [] h16 rfl (fun _ => ?_) (fun _ => ?_)
          · refine S_di 5 80 51 1 [.inr (26, 0), av0, av0, av0, .inl (.int (x4 ||| x5)), av0, av0, av0, av0] [.inl (.int (3 : Int32)), .inr (12, 0), .inl (.int (x4 ||| x5))] [.inr (12, 0), .inl (.int (3 : Int32))] [.inr (26, 0), av0, av0, av0, .inl (.int (x4 ||| x5)), av0, av0, av0, av0] [.inl (.int (x4 ||| x5))] h16 rfl rfl pp_51 (by decide) (s_X6_bitsOf 0 (3 : Int32) h16) (fun y17 h18 => ?_)
            exact S_ri 1 (82, [.inr (26, 0), av0, av0, av0, .inl (.int (x4 ||| x5)), av0, av0, av0, av0], [.inl (.int ((x4 ||| x5) &&& y17))], h18) rfl rfl
          · refine S_di 2 72 30 0 [.inr (26, 0), .inl (.int x1), .inl (.int x2), .inl (.int x3), .inl (.int (x4 ||| x5)), .inl (.int x5), .inl (.int x6), .inl (.int y3), .inl (.int (1 : Int32))] [.inl (.int x3), .inl (.int x5)] [.inl (.int x5), .inl (.int x3)] [.inr (26, 0), .inl (.int x1), .inl (.int x2), .inl (.int x3), .inl (.int (x4 ||| x5)), .inl (.int x5), .inl (.int x6), .inl (.int y3), .inl (.int (1 : Int32))] [] h16 rfl rfl pp_30 (by decide) (s_X3_nextSubset x5 x3 h16) (fun y19 h20 => ?_)
            refine S_blk 3 (27, [.inr (26, 0), .inl (.int x1), .inl (.int x2), .inl (.int x3), .inl (.int (x4 ||| x5)), .inl (.int y19), .inl (.int (x6 + (1 : Int32))), .inl (.int y3), .inl (.int (1 : Int32))], [], h20) rfl ?_
            refine S_nrm [.inr (26, 0), .inl (.int x1), .inl (.int x2), .inl (.int x3), .inl (.int (x4 ||| x5)), .inl (.int y19), .inl (.int (x6 + (1 : Int32))), av0, av0] rfl ?_
            exact hrc x1 x2 x3 (x4 ||| x5) y19 (x6 + (1 : Int32)) h20
        · refine S_dv 6 65 33 0 [.inr (26, 0), .inl (.int x1), .inl (.int x2), .inl (.int x3), .inl (.int (x4 ||| (0 : Int32))), .inl (.int x5), .inl (.int x6), .inl (.int y3), .inl (.int (1 : Int32))] [.inl (.int (1 : Int32)), .inl (.int x5), .inr (26, 0)] [.inr (26, 0), .inl (.int x5), .inl (.int (1 : Int32)), av0] [.inr (26, 0), .inl (.int x1), .inl (.int x2), .inl (.int x3), .inl (.int (x4 ||| (0 : Int32))), .inl (.int x5), .inl (.int x6), .inl (.int y3), .inl (.int (1 : Int32))] [] h8 rfl rfl pp_33 (by decide) (s_X3_markEnough x5 (1 : Int32) h8) (fun _ h22 => ?_)
          refine S_br 3 69 70 [.inr (26, 0), .inl (.int x1), .inl (.int x2), .inl (.int x3), .inl (.int (x4 ||| (0 : Int32))), .inl (.int x5), .inl (.int x6), .inl (.int y3), .inl (.int (1 : Int32))] [] h22 rfl (fun _ => ?_) (fun _ => ?_)
          · refine S_di 5 80 51 1 [.inr (26, 0), av0, av0, av0, .inl (.int (x4 ||| (0 : Int32))), av0, av0, av0, av0] [.inl (.int (3 : Int32)), .inr (12, 0), .inl (.int (x4 ||| (0 : Int32)))] [.inr (12, 0), .inl (.int (3 : Int32))] [.inr (26, 0), av0, av0, av0, .inl (.int (x4 ||| (0 : Int32))), av0, av0, av0, av0] [.inl (.int (x4 ||| (0 : Int32)))] h22 rfl rfl pp_51 (by decide) (s_X6_bitsOf 0 (3 : Int32) h22) (fun y23 h24 => ?_)
            exact S_ri 1 (82, [.inr (26, 0), av0, av0, av0, .inl (.int (x4 ||| (0 : Int32))), av0, av0, av0, av0], [.inl (.int ((x4 ||| (0 : Int32)) &&& y23))], h24) rfl rfl
          · refine S_di 2 72 30 0 [.inr (26, 0), .inl (.int x1), .inl (.int x2), .inl (.int x3), .inl (.int (x4 ||| (0 : Int32))), .inl (.int x5), .inl (.int x6), .inl (.int y3), .inl (.int (1 : Int32))] [.inl (.int x3), .inl (.int x5)] [.inl (.int x5), .inl (.int x3)] [.inr (26, 0), .inl (.int x1), .inl (.int x2), .inl (.int x3), .inl (.int (x4 ||| (0 : Int32))), .inl (.int x5), .inl (.int x6), .inl (.int y3), .inl (.int (1 : Int32))] [] h22 rfl rfl pp_30 (by decide) (s_X3_nextSubset x5 x3 h22) (fun y25 h26 => ?_)
            refine S_blk 3 (27, [.inr (26, 0), .inl (.int x1), .inl (.int x2), .inl (.int x3), .inl (.int (x4 ||| (0 : Int32))), .inl (.int y25), .inl (.int (x6 + (1 : Int32))), .inl (.int y3), .inl (.int (1 : Int32))], [], h26) rfl ?_
            refine S_nrm [.inr (26, 0), .inl (.int x1), .inl (.int x2), .inl (.int x3), .inl (.int (x4 ||| (0 : Int32))), .inl (.int y25), .inl (.int (x6 + (1 : Int32))), av0, av0] rfl ?_
            exact hrc x1 x2 x3 (x4 ||| (0 : Int32)) y25 (x6 + (1 : Int32)) h26
    · refine S_bf 6 (c := (1 : Int32) = 0) 59 55 [.inr (26, 0), .inl (.int x1), .inl (.int x2), .inl (.int x3), .inl (.int x4), .inl (.int x5), .inl (.int x6), .inl (.int y3), .inl (.int (1 : Int32))] [.inl (.int x4)] h4 rfl (by decide) ?_
      refine S_br 2 57 59 [.inr (26, 0), .inl (.int x1), .inl (.int x2), .inl (.int x3), .inl (.int x4), .inl (.int x5), .inl (.int x6), .inl (.int y3), .inl (.int (1 : Int32))] [.inl (.int x4)] h4 rfl (fun _ => ?_) (fun _ => ?_)
      · refine S_dv 7 65 33 0 [.inr (26, 0), .inl (.int x1), .inl (.int x2), .inl (.int x3), .inl (.int (x4 ||| x5)), .inl (.int x5), .inl (.int x6), .inl (.int y3), .inl (.int (1 : Int32))] [.inl (.int (1 : Int32)), .inl (.int x5), .inr (26, 0)] [.inr (26, 0), .inl (.int x5), .inl (.int (1 : Int32)), av0] [.inr (26, 0), .inl (.int x1), .inl (.int x2), .inl (.int x3), .inl (.int (x4 ||| x5)), .inl (.int x5), .inl (.int x6), .inl (.int y3), .inl (.int (1 : Int32))] [] h4 rfl rfl pp_33 (by decide) (s_X3_markEnough x5 (1 : Int32) h4) (fun _ h28 => ?_)
        refine S_br 3 69 70 [.inr (26, 0), .inl (.int x1), .inl (.int x2), .inl (.int x3), .inl (.int (x4 ||| x5)), .inl (.int x5), .inl (.int x6), .inl (.int y3), .inl (.int (1 : Int32))] [] h28 rfl (fun _ => ?_) (fun _ => ?_)
        · refine S_di 5 80 51 1 [.inr (26, 0), av0, av0, av0, .inl (.int (x4 ||| x5)), av0, av0, av0, av0] [.inl (.int (3 : Int32)), .inr (12, 0), .inl (.int (x4 ||| x5))] [.inr (12, 0), .inl (.int (3 : Int32))] [.inr (26, 0), av0, av0, av0, .inl (.int (x4 ||| x5)), av0, av0, av0, av0] [.inl (.int (x4 ||| x5))] h28 rfl rfl pp_51 (by decide) (s_X6_bitsOf 0 (3 : Int32) h28) (fun y29 h30 => ?_)
          exact S_ri 1 (82, [.inr (26, 0), av0, av0, av0, .inl (.int (x4 ||| x5)), av0, av0, av0, av0], [.inl (.int ((x4 ||| x5) &&& y29))], h30) rfl rfl
        · refine S_di 2 72 30 0 [.inr (26, 0), .inl (.int x1), .inl (.int x2), .inl (.int x3), .inl (.int (x4 ||| x5)), .inl (.int x5), .inl (.int x6), .inl (.int y3), .inl (.int (1 : Int32))] [.inl (.int x3), .inl (.int x5)] [.inl (.int x5), .inl (.int x3)] [.inr (26, 0), .inl (.int x1), .inl (.int x2), .inl (.int x3), .inl (.int (x4 ||| x5)), .inl (.int x5), .inl (.int x6), .inl (.int y3), .inl (.int (1 : Int32))] [] h28 rfl rfl pp_30 (by decide) (s_X3_nextSubset x5 x3 h28) (fun y31 h32 => ?_)
          refine S_blk 3 (27, [.inr (26, 0), .inl (.int x1), .inl (.int x2), .inl (.int x3), .inl (.int (x4 ||| x5)), .inl (.int y31), .inl (.int (x6 + (1 : Int32))), .inl (.int y3), .inl (.int (1 : Int32))], [], h32) rfl ?_
          refine S_nrm [.inr (26, 0), .inl (.int x1), .inl (.int x2), .inl (.int x3), .inl (.int (x4 ||| x5)), .inl (.int y31), .inl (.int (x6 + (1 : Int32))), av0, av0] rfl ?_
          exact hrc x1 x2 x3 (x4 ||| x5) y31 (x6 + (1 : Int32)) h32
      · refine S_dv 6 65 33 0 [.inr (26, 0), .inl (.int x1), .inl (.int x2), .inl (.int x3), .inl (.int (x4 ||| (0 : Int32))), .inl (.int x5), .inl (.int x6), .inl (.int y3), .inl (.int (1 : Int32))] [.inl (.int (1 : Int32)), .inl (.int x5), .inr (26, 0)] [.inr (26, 0), .inl (.int x5), .inl (.int (1 : Int32)), av0] [.inr (26, 0), .inl (.int x1), .inl (.int x2), .inl (.int x3), .inl (.int (x4 ||| (0 : Int32))), .inl (.int x5), .inl (.int x6), .inl (.int y3), .inl (.int (1 : Int32))] [] h4 rfl rfl pp_33 (by decide) (s_X3_markEnough x5 (1 : Int32) h4) (fun _ h34 => ?_)
        refine S_br 3 69 70 [.inr (26, 0), .inl (.int x1), .inl (.int x2), .inl (.int x3), .inl (.int (x4 ||| (0 : Int32))), .inl (.int x5), .inl (.int x6), .inl (.int y3), .inl (.int (1 : Int32))] [] h34 rfl (fun _ => ?_) (fun _ => ?_)
        · refine S_di 5 80 51 1 [.inr (26, 0), av0, av0, av0, .inl (.int (x4 ||| (0 : Int32))), av0, av0, av0, av0] [.inl (.int (3 : Int32)), .inr (12, 0), .inl (.int (x4 ||| (0 : Int32)))] [.inr (12, 0), .inl (.int (3 : Int32))] [.inr (26, 0), av0, av0, av0, .inl (.int (x4 ||| (0 : Int32))), av0, av0, av0, av0] [.inl (.int (x4 ||| (0 : Int32)))] h34 rfl rfl pp_51 (by decide) (s_X6_bitsOf 0 (3 : Int32) h34) (fun y35 h36 => ?_)
          exact S_ri 1 (82, [.inr (26, 0), av0, av0, av0, .inl (.int (x4 ||| (0 : Int32))), av0, av0, av0, av0], [.inl (.int ((x4 ||| (0 : Int32)) &&& y35))], h36) rfl rfl
        · refine S_di 2 72 30 0 [.inr (26, 0), .inl (.int x1), .inl (.int x2), .inl (.int x3), .inl (.int (x4 ||| (0 : Int32))), .inl (.int x5), .inl (.int x6), .inl (.int y3), .inl (.int (1 : Int32))] [.inl (.int x3), .inl (.int x5)] [.inl (.int x5), .inl (.int x3)] [.inr (26, 0), .inl (.int x1), .inl (.int x2), .inl (.int x3), .inl (.int (x4 ||| (0 : Int32))), .inl (.int x5), .inl (.int x6), .inl (.int y3), .inl (.int (1 : Int32))] [] h34 rfl rfl pp_30 (by decide) (s_X3_nextSubset x5 x3 h34) (fun y37 h38 => ?_)
          refine S_blk 3 (27, [.inr (26, 0), .inl (.int x1), .inl (.int x2), .inl (.int x3), .inl (.int (x4 ||| (0 : Int32))), .inl (.int y37), .inl (.int (x6 + (1 : Int32))), .inl (.int y3), .inl (.int (1 : Int32))], [], h38) rfl ?_
          refine S_nrm [.inr (26, 0), .inl (.int x1), .inl (.int x2), .inl (.int x3), .inl (.int (x4 ||| (0 : Int32))), .inl (.int y37), .inl (.int (x6 + (1 : Int32))), av0, av0] rfl ?_
          exact hrc x1 x2 x3 (x4 ||| (0 : Int32)) y37 (x6 + (1 : Int32)) h38
theorem sl_X3_actsSomeWay_27     : ∀ (F : Nat) (x1 : Int32) (x2 : Int32) (x3 : Int32) (x4 : Int32) (x5 : Int32) (x6 : Int32) (h : AH), Sim PP (4) k_X3_actsSomeWay (27, [.inr (26, 0), .inl (.int x1), .inl (.int x2), .inl (.int x3), .inl (.int x4), .inl (.int x5), .inl (.int x6), av0, av0], [], h) (l_X3_actsSomeWay_27 F x1 x2 x3 x4 x5 x6 h) fI := by
  intro F
  induction F with
  | zero => intro x1 x2 x3 x4 x5 x6 h; exact S_none
  | succ F ih => intro x1 x2 x3 x4 x5 x6 h; exact sb_X3_actsSomeWay_27 (l_X3_actsSomeWay_27 F) x1 x2 x3 x4 x5 x6 ih h
theorem s_X3_actsSomeWay (x1 : Int32) (h : AH) : Sim PP (4) k_X3_actsSomeWay (0, [.inr (26, 0), .inl (.int x1), av0, av0, av0, av0, av0, av0, av0], [], h) (f_X3_actsSomeWay x1 h) fI := by
  unfold f_X3_actsSomeWay
  refine S_dv 3 3 274 0 [.inr (26, 0), .inl (.int x1), av0, av0, av0, av0, av0, av0, av0] [.inl (.int (0 : Int32)), .inr (27, 0)] [.inr (27, 0), .inl (.int (0 : Int32)), av0, av0] [.inr (26, 0), .inl (.int x1), av0, av0, av0, av0, av0, av0, av0] [] h rfl rfl pp_274 (by decide) (s_J7_fill_53178_enough (0 : Int32) h) (fun _ h2 => ?_)
  refine S_di 7 11 11 2 [.inr (26, 0), .inl (.int x1), .inl (.int ((1 : Int32) <<< (x1 &&& 31))), av0, av0, av0, av0, av0, av0] [.inl (.int x1), .inr (18, 0)] [.inr (18, 0), .inl (.int x1), av0, av0, av0, av0, av0] [.inr (26, 0), .inl (.int x1), .inl (.int ((1 : Int32) <<< (x1 &&& 31))), av0, av0, av0, av0, av0, av0] [] h2 rfl rfl pp_11 (by decide) (s_X0_reachOf x1 h2) (fun y3 h4 => ?_)
  refine S_di 2 14 7 3 [.inr (26, 0), .inl (.int x1), .inl (.int ((1 : Int32) <<< (x1 &&& 31))), av0, av0, av0, av0, av0, av0] [.inr (18, 0), .inl (.int y3)] [.inr (18, 0)] [.inr (26, 0), .inl (.int x1), .inl (.int ((1 : Int32) <<< (x1 &&& 31))), av0, av0, av0, av0, av0, av0] [.inl (.int y3)] h4 rfl rfl pp_7 (by decide) (s_X0_standing  h4) (fun y5 h6 => ?_)
  refine S_blk 12 (27, [.inr (26, 0), .inl (.int x1), .inl (.int ((1 : Int32) <<< (x1 &&& 31))), .inl (.int ((y3 &&& y5) &&& (((1 : Int32) <<< (x1 &&& 31)) ^^^ (-1 : Int32)))), .inl (.int ((1 : Int32) <<< (x1 &&& 31))), .inl (.int (0 : Int32)), .inl (.int (0 : Int32)), av0, av0], [], h6) rfl ?_
  refine S_nrm [.inr (26, 0), .inl (.int x1), .inl (.int ((1 : Int32) <<< (x1 &&& 31))), .inl (.int ((y3 &&& y5) &&& (((1 : Int32) <<< (x1 &&& 31)) ^^^ (-1 : Int32)))), .inl (.int ((1 : Int32) <<< (x1 &&& 31))), .inl (.int (0 : Int32)), .inl (.int (0 : Int32)), av0, av0] rfl ?_
  exact (sl_X3_actsSomeWay_27  FU x1 ((1 : Int32) <<< (x1 &&& 31)) ((y3 &&& y5) &&& (((1 : Int32) <<< (x1 &&& 31)) ^^^ (-1 : Int32))) ((1 : Int32) <<< (x1 &&& 31)) (0 : Int32) (0 : Int32) h6)
theorem sb_X3_actsEachWay_9  (rc : Int32 → Int32 → Int32 → Int32 → AH → Option (Int32 × AH)) (x1 : Int32) (x2 : Int32) (x3 : Int32) (x4 : Int32) (hrc : ∀ (x3 : Int32) (x4 : Int32) (h : AH), Sim PP (3) k_X3_actsEachWay (9, [.inr (26, 0), .inl (.int x1), .inl (.int x2), .inl (.int x3), .inl (.int x4)], [], h) (rc x1 x2 x3 x4 h) (fE PP (3) k_X3_actsEachWay 40 (fun v => [av0, av0, av0, .inl (.int v), av0])))  (h : AH) : Sim PP (3) k_X3_actsEachWay (9, [.inr (26, 0), .inl (.int x1), .inl (.int x2), .inl (.int x3), .inl (.int x4)], [], h) (b_X3_actsEachWay_9 rc x1 x2 x3 x4 h) (fE PP (3) k_X3_actsEachWay 40 (fun v => [av0, av0, av0, .inl (.int v), av0])) := by
  unfold b_X3_actsEachWay_9
  refine S_br 5 40 14 [.inr (26, 0), .inl (.int x1), .inl (.int x2), .inl (.int x3), .inl (.int x4)] [] h rfl (fun _ => ?_) (fun _ => ?_)
  · exact S_ex x3 (fun v => [av0, av0, av0, .inl (.int v), av0]) rfl
  · refine S_di 2 16 138 0 [.inr (26, 0), .inl (.int x1), .inl (.int x2), .inl (.int x3), .inl (.int x4)] [.inl (.int x4), .inl (.int x2)] [.inl (.int x2), .inl (.int x4)] [.inr (26, 0), .inl (.int x1), .inl (.int x2), .inl (.int x3), .inl (.int x4)] [] h rfl rfl pp_138 (by decide) (s_X11_has x2 x4 h) (fun y1 h2 => ?_)
    refine S_br 1 38 18 [.inr (26, 0), .inl (.int x1), .inl (.int x2), .inl (.int x3), .inl (.int x4)] [] h2 rfl (fun _ => ?_) (fun _ => ?_)
    · refine S_blk 2 (9, [.inr (26, 0), .inl (.int x1), .inl (.int x2), .inl (.int x3), .inl (.int (x4 + (1 : Int32)))], [], h2) rfl ?_
      refine S_nrm [.inr (26, 0), .inl (.int x1), .inl (.int x2), .inl (.int x3), .inl (.int (x4 + (1 : Int32)))] rfl ?_
      exact hrc x3 (x4 + (1 : Int32)) h2
    · refine S_di 10 28 8 2 [.inr (26, 0), .inl (.int x1), .inl (.int x2), .inl (.int x3), .inl (.int x4)] [.inl (.int (-1 : Int32)), .inl (.int ((h2.1 8 3 3) ||| ((1 : Int32) <<< (x4 &&& 31)))), .inr (18, 0)] [.inr (18, 0), .inl (.int ((h2.1 8 3 3) ||| ((1 : Int32) <<< (x4 &&& 31)))), .inl (.int (-1 : Int32)), av0, av0, av0, av0, av0, av0] [.inr (26, 0), .inl (.int x1), .inl (.int x2), .inl (.int x3), .inl (.int x4)] [] h2 rfl rfl pp_8 (by decide) (s_X0_standingBy ((h2.1 8 3 3) ||| ((1 : Int32) <<< (x4 &&& 31))) (-1 : Int32) h2) (fun y3 h4 => ?_)
      refine S_di 1 30 138 0 [.inr (26, 0), .inl (.int x1), .inl (.int x2), .inl (.int x3), .inl (.int x4)] [.inl (.int x1), .inl (.int y3)] [.inl (.int y3), .inl (.int x1)] [.inr (26, 0), .inl (.int x1), .inl (.int x2), .inl (.int x3), .inl (.int x4)] [] h4 rfl rfl pp_138 (by decide) (s_X11_has y3 x1 h4) (fun y5 h6 => ?_)
      refine S_br 1 32 38 [.inr (26, 0), .inl (.int x1), .inl (.int x2), .inl (.int x3), .inl (.int x4)] [] h6 rfl (fun _ => ?_) (fun _ => ?_)
      · refine S_blk 8 (9, [.inr (26, 0), .inl (.int x1), .inl (.int x2), .inl (.int (x3 ||| ((1 : Int32) <<< (x4 &&& 31)))), .inl (.int (x4 + (1 : Int32)))], [], h6) rfl ?_
        refine S_nrm [.inr (26, 0), .inl (.int x1), .inl (.int x2), .inl (.int (x3 ||| ((1 : Int32) <<< (x4 &&& 31)))), .inl (.int (x4 + (1 : Int32)))] rfl ?_
        exact hrc (x3 ||| ((1 : Int32) <<< (x4 &&& 31))) (x4 + (1 : Int32)) h6
      · refine S_blk 2 (9, [.inr (26, 0), .inl (.int x1), .inl (.int x2), .inl (.int x3), .inl (.int (x4 + (1 : Int32)))], [], h6) rfl ?_
        refine S_nrm [.inr (26, 0), .inl (.int x1), .inl (.int x2), .inl (.int x3), .inl (.int (x4 + (1 : Int32)))] rfl ?_
        exact hrc x3 (x4 + (1 : Int32)) h6
theorem sl_X3_actsEachWay_9    (x1 : Int32) (x2 : Int32) : ∀ (F : Nat) (x3 : Int32) (x4 : Int32) (h : AH), Sim PP (3) k_X3_actsEachWay (9, [.inr (26, 0), .inl (.int x1), .inl (.int x2), .inl (.int x3), .inl (.int x4)], [], h) (l_X3_actsEachWay_9 F x1 x2 x3 x4 h) (fE PP (3) k_X3_actsEachWay 40 (fun v => [av0, av0, av0, .inl (.int v), av0])) := by
  intro F
  induction F with
  | zero => intro x3 x4 h; exact S_none
  | succ F ih => intro x3 x4 h; exact sb_X3_actsEachWay_9 (l_X3_actsEachWay_9 F) x1 x2 x3 x4 ih h
theorem sc_X3_actsEachWay_40    (x3 : Int32)  (h : AH) : Sim PP (3) k_X3_actsEachWay (40, [av0, av0, av0, .inl (.int x3), av0], [], h) (c_X3_actsEachWay_40  x3 h) fI := by
  unfold c_X3_actsEachWay_40
  exact S_ri 1 (41, [av0, av0, av0, .inl (.int x3), av0], [.inl (.int x3)], h) rfl rfl
theorem s_X3_actsEachWay (x1 : Int32) (h : AH) : Sim PP (3) k_X3_actsEachWay (0, [.inr (26, 0), .inl (.int x1), av0, av0, av0], [], h) (f_X3_actsEachWay x1 h) fI := by
  unfold f_X3_actsEachWay
  refine S_di 3 3 51 1 [.inr (26, 0), .inl (.int x1), av0, av0, av0] [.inl (.int (3 : Int32)), .inr (12, 0)] [.inr (12, 0), .inl (.int (3 : Int32))] [.inr (26, 0), .inl (.int x1), av0, av0, av0] [] h rfl rfl pp_51 (by decide) (s_X6_bitsOf 0 (3 : Int32) h) (fun y1 h2 => ?_)
  refine S_blk 5 (9, [.inr (26, 0), .inl (.int x1), .inl (.int y1), .inl (.int (0 : Int32)), .inl (.int (0 : Int32))], [], h2) rfl ?_
  refine S_nrm [.inr (26, 0), .inl (.int x1), .inl (.int y1), .inl (.int (0 : Int32)), .inl (.int (0 : Int32))] rfl ?_
  refine S_lp 40 (fun v => [av0, av0, av0, .inl (.int v), av0]) (sl_X3_actsEachWay_9 x1 y1 FU (0 : Int32) (0 : Int32) h2) (fun v h => ?_)
  exact sc_X3_actsEachWay_40 v h
theorem s_X11_whose (x1 : Int32) (h : AH) : Sim PP (5) k_X11_whose (0, [.inr (0, 0), .inl (.int x1)], [], h) (f_X11_whose x1 h) fI := by
  unfold f_X11_whose
  refine S_di 2 2 136 0 [.inr (0, 0), .inl (.int x1)] [.inl (.int x1), .inr (0, 0)] [.inr (0, 0), .inl (.int x1)] [.inr (0, 0), .inl (.int x1)] [] h rfl rfl pp_136 (by decide) (s_X11_isClaim x1 h) (fun y1 h2 => ?_)
  refine S_br 1 4 6 [.inr (0, 0), .inl (.int x1)] [] h2 rfl (fun _ => ?_) (fun _ => ?_)
  · exact S_ri 1 (5, [.inr (0, 0), .inl (.int x1)], [.inl (.int (-1 : Int32))], h2) rfl rfl
  · refine S_di 2 8 7 3 [.inr (0, 0), .inl (.int x1)] [.inr (18, 0)] [.inr (18, 0)] [.inr (0, 0), .inl (.int x1)] [] h2 rfl rfl pp_7 (by decide) (s_X0_standing  h2) (fun y3 h4 => ?_)
    refine S_di 1 10 138 0 [.inr (0, 0), .inl (.int x1)] [.inl (.int x1), .inl (.int y3)] [.inl (.int y3), .inl (.int x1)] [.inr (0, 0), .inl (.int x1)] [] h4 rfl rfl pp_138 (by decide) (s_X11_has y3 x1 h4) (fun y5 h6 => ?_)
    refine S_br 1 12 17 [.inr (0, 0), .inl (.int x1)] [] h6 rfl (fun _ => ?_) (fun _ => ?_)
    · exact S_ri 4 (16, [.inr (0, 0), .inl (.int x1)], [.inl (.int (0 : Int32))], (hsI h6 0 0 14 (0 : Int32))) rfl rfl
    · refine S_di 4 21 29 4 [.inr (0, 0), .inl (.int x1)] [.inl (.int x1), .inr (26, 0), .inr (0, 0)] [.inr (26, 0), .inl (.int x1), av0, av0, av0, av0, av0, av0, av0] [.inr (0, 0), .inl (.int x1)] [.inr (0, 0)] h6 rfl rfl pp_29 (by decide) (s_X3_actsSomeWay x1 h6) (fun y7 h8 => ?_)
      refine S_di 4 26 28 3 [.inr (0, 0), .inl (.int x1)] [.inl (.int x1), .inr (26, 0)] [.inr (26, 0), .inl (.int x1), av0, av0, av0] [.inr (0, 0), .inl (.int x1)] [] (hsI h8 0 0 14 y7) rfl rfl pp_28 (by decide) (s_X3_actsEachWay x1 (hsI h8 0 0 14 y7)) (fun y9 h10 => ?_)
      exact S_ri 0 (27, [.inr (0, 0), .inl (.int x1)], [.inl (.int y9)], h10) rfl rfl
theorem sb_X12_isLean_10  (rc : Int32 → Int32 → Int32 → Int32 → AH → Option (Int32 × AH)) (x1 : Int32) (x2 : Int32) (x3 : Int32) (x4 : Int32) (hrc : ∀ (x3 : Int32) (x4 : Int32) (h : AH), Sim PP (2) k_X12_isLean (10, [.inr (34, 0), .inl (.int x1), .inl (.int x2), .inl (.int x3), .inl (.int x4)], [], h) (rc x1 x2 x3 x4 h) (fE PP (2) k_X12_isLean 40 (fun v => [av0, av0, av0, .inl (.int v), av0])))  (h : AH) : Sim PP (2) k_X12_isLean (10, [.inr (34, 0), .inl (.int x1), .inl (.int x2), .inl (.int x3), .inl (.int x4)], [], h) (b_X12_isLean_10 rc x1 x2 x3 x4 h) (fE PP (2) k_X12_isLean 40 (fun v => [av0, av0, av0, .inl (.int v), av0])) := by
  unfold b_X12_isLean_10
  refine S_br 4 40 14 [.inr (34, 0), .inl (.int x1), .inl (.int x2), .inl (.int x3), .inl (.int x4)] [] h rfl (fun _ => ?_) (fun _ => ?_)
  · exact S_ex x3 (fun v => [av0, av0, av0, .inl (.int v), av0]) rfl
  · refine S_br 2 40 16 [.inr (34, 0), .inl (.int x1), .inl (.int x2), .inl (.int x3), .inl (.int x4)] [] h rfl (fun _ => ?_) (fun _ => ?_)
    · exact S_ex x3 (fun v => [av0, av0, av0, .inl (.int v), av0]) rfl
    · refine S_di 2 18 155 0 [.inr (34, 0), .inl (.int x1), .inl (.int x2), .inl (.int x3), .inl (.int x4)] [.inl (.int x4), .inl (.int x1)] [.inl (.int x1), .inl (.int x4)] [.inr (34, 0), .inl (.int x1), .inl (.int x2), .inl (.int x3), .inl (.int x4)] [] h rfl rfl pp_155 (by decide) (s_X12_has x1 x4 h) (fun y1 h2 => ?_)
      refine S_br 1 34 20 [.inr (34, 0), .inl (.int x1), .inl (.int x2), .inl (.int x3), .inl (.int x4)] [] h2 rfl (fun _ => ?_) (fun _ => ?_)
      · refine S_blk 5 (10, [.inr (34, 0), .inl (.int x1), .inl (.int x2), .inl (.int (1 : Int32)), .inl (.int (x4 + (1 : Int32)))], [], h2) rfl ?_
        refine S_nrm [.inr (34, 0), .inl (.int x1), .inl (.int x2), .inl (.int (1 : Int32)), .inl (.int (x4 + (1 : Int32)))] rfl ?_
        exact hrc (1 : Int32) (x4 + (1 : Int32)) h2
      · refine S_di 9 29 192 0 [.inr (34, 0), .inl (.int x1), .inl (.int x2), .inl (.int x3), .inl (.int x4)] [.inr (34, 0), .inl (.int (x1 &&& (((1 : Int32) <<< (x4 &&& 31)) ^^^ (-1 : Int32)))), .inr (34, 0)] [.inr (34, 0)] [.inr (34, 0), .inl (.int x1), .inl (.int x2), .inl (.int x3), .inl (.int x4)] [.inl (.int (x1 &&& (((1 : Int32) <<< (x4 &&& 31)) ^^^ (-1 : Int32)))), .inr (34, 0)] h2 rfl rfl pp_192 (by decide) (s_X12_allReasons  h2) (fun y3 h4 => ?_)
        refine S_di 0 30 201 1 [.inr (34, 0), .inl (.int x1), .inl (.int x2), .inl (.int x3), .inl (.int x4)] [.inl (.int y3), .inl (.int (x1 &&& (((1 : Int32) <<< (x4 &&& 31)) ^^^ (-1 : Int32)))), .inr (34, 0)] [.inr (34, 0), .inl (.int (x1 &&& (((1 : Int32) <<< (x4 &&& 31)) ^^^ (-1 : Int32)))), .inl (.int y3), av0, av0, av0, av0] [.inr (34, 0), .inl (.int x1), .inl (.int x2), .inl (.int x3), .inl (.int x4)] [] h4 rfl rfl pp_201 (by decide) (s_X12_standing (x1 &&& (((1 : Int32) <<< (x4 &&& 31)) ^^^ (-1 : Int32))) y3 h4) (fun y5 h6 => ?_)
        refine S_di 1 32 155 0 [.inr (34, 0), .inl (.int x1), .inl (.int x2), .inl (.int x3), .inl (.int x4)] [.inl (.int x2), .inl (.int y5)] [.inl (.int y5), .inl (.int x2)] [.inr (34, 0), .inl (.int x1), .inl (.int x2), .inl (.int x3), .inl (.int x4)] [] h6 rfl rfl pp_155 (by decide) (s_X12_has y5 x2 h6) (fun y7 h8 => ?_)
        refine S_br 1 34 36 [.inr (34, 0), .inl (.int x1), .inl (.int x2), .inl (.int x3), .inl (.int x4)] [] h8 rfl (fun _ => ?_) (fun _ => ?_)
        · refine S_blk 5 (10, [.inr (34, 0), .inl (.int x1), .inl (.int x2), .inl (.int (1 : Int32)), .inl (.int (x4 + (1 : Int32)))], [], h8) rfl ?_
          refine S_nrm [.inr (34, 0), .inl (.int x1), .inl (.int x2), .inl (.int (1 : Int32)), .inl (.int (x4 + (1 : Int32)))] rfl ?_
          exact hrc (1 : Int32) (x4 + (1 : Int32)) h8
        · refine S_blk 4 (10, [.inr (34, 0), .inl (.int x1), .inl (.int x2), .inl (.int (0 : Int32)), .inl (.int (x4 + (1 : Int32)))], [], h8) rfl ?_
          refine S_nrm [.inr (34, 0), .inl (.int x1), .inl (.int x2), .inl (.int (0 : Int32)), .inl (.int (x4 + (1 : Int32)))] rfl ?_
          exact hrc (0 : Int32) (x4 + (1 : Int32)) h8
theorem sl_X12_isLean_10    (x1 : Int32) (x2 : Int32) : ∀ (F : Nat) (x3 : Int32) (x4 : Int32) (h : AH), Sim PP (2) k_X12_isLean (10, [.inr (34, 0), .inl (.int x1), .inl (.int x2), .inl (.int x3), .inl (.int x4)], [], h) (l_X12_isLean_10 F x1 x2 x3 x4 h) (fE PP (2) k_X12_isLean 40 (fun v => [av0, av0, av0, .inl (.int v), av0])) := by
  intro F
  induction F with
  | zero => intro x3 x4 h; exact S_none
  | succ F ih => intro x3 x4 h; exact sb_X12_isLean_10 (l_X12_isLean_10 F) x1 x2 x3 x4 ih h
theorem sc_X12_isLean_40    (x3 : Int32)  (h : AH) : Sim PP (2) k_X12_isLean (40, [av0, av0, av0, .inl (.int x3), av0], [], h) (c_X12_isLean_40  x3 h) fI := by
  unfold c_X12_isLean_40
  exact S_ri 1 (41, [av0, av0, av0, .inl (.int x3), av0], [.inl (.int x3)], h) rfl rfl
theorem s_X12_isLean (x1 : Int32) (x2 : Int32) (h : AH) : Sim PP (2) k_X12_isLean (0, [.inr (34, 0), .inl (.int x1), .inl (.int x2), av0, av0], [], h) (f_X12_isLean x1 x2 h) fI := by
  unfold f_X12_isLean
  refine S_di 3 3 192 0 [.inr (34, 0), .inl (.int x1), .inl (.int x2), av0, av0] [.inr (34, 0), .inl (.int x1), .inr (34, 0)] [.inr (34, 0)] [.inr (34, 0), .inl (.int x1), .inl (.int x2), av0, av0] [.inl (.int x1), .inr (34, 0)] h rfl rfl pp_192 (by decide) (s_X12_allReasons  h) (fun y1 h2 => ?_)
  refine S_di 0 4 201 1 [.inr (34, 0), .inl (.int x1), .inl (.int x2), av0, av0] [.inl (.int y1), .inl (.int x1), .inr (34, 0)] [.inr (34, 0), .inl (.int x1), .inl (.int y1), av0, av0, av0, av0] [.inr (34, 0), .inl (.int x1), .inl (.int x2), av0, av0] [] h2 rfl rfl pp_201 (by decide) (s_X12_standing x1 y1 h2) (fun y3 h4 => ?_)
  refine S_di 1 6 155 0 [.inr (34, 0), .inl (.int x1), .inl (.int x2), av0, av0] [.inl (.int x2), .inl (.int y3)] [.inl (.int y3), .inl (.int x2)] [.inr (34, 0), .inl (.int x1), .inl (.int x2), av0, av0] [] h4 rfl rfl pp_155 (by decide) (s_X12_has y3 x2 h4) (fun y5 h6 => ?_)
  refine S_blk 3 (10, [.inr (34, 0), .inl (.int x1), .inl (.int x2), .inl (.int y5), .inl (.int (0 : Int32))], [], h6) rfl ?_
  refine S_nrm [.inr (34, 0), .inl (.int x1), .inl (.int x2), .inl (.int y5), .inl (.int (0 : Int32))] rfl ?_
  refine S_lp 40 (fun v => [av0, av0, av0, .inl (.int v), av0]) (sl_X12_isLean_10 x1 x2 FU y5 (0 : Int32) h6) (fun v h => ?_)
  exact sc_X12_isLean_40 v h
theorem sb_X12_whose_22  (rc : Int32 → Int32 → Int32 → Int32 → AH → Option (Int32 × AH)) (x1 : Int32) (x2 : Int32) (x3 : Int32) (x4 : Int32) (hrc : ∀ (x2 : Int32) (x4 : Int32) (h : AH), Sim PP (3) k_X12_whose (22, [.inr (34, 0), .inl (.int x1), .inl (.int x2), .inl (.int x3), .inl (.int x4)], [], h) (rc x1 x2 x3 x4 h) (fE PP (3) k_X12_whose 48 (fun v => [.inr (34, 0), .inl (.int x1), .inl (.int v), .inl (.int x3), av0])))  (h : AH) : Sim PP (3) k_X12_whose (22, [.inr (34, 0), .inl (.int x1), .inl (.int x2), .inl (.int x3), .inl (.int x4)], [], h) (b_X12_whose_22 rc x1 x2 x3 x4 h) (fE PP (3) k_X12_whose 48 (fun v => [.inr (34, 0), .inl (.int x1), .inl (.int v), .inl (.int x3), av0])) := by
  unfold b_X12_whose_22
  refine S_br 4 48 26 [.inr (34, 0), .inl (.int x1), .inl (.int x2), .inl (.int x3), .inl (.int x4)] [] h rfl (fun _ => ?_) (fun _ => ?_)
  · exact S_ex x2 (fun v => [.inr (34, 0), .inl (.int x1), .inl (.int v), .inl (.int x3), av0]) rfl
  · refine S_di 3 29 194 0 [.inr (34, 0), .inl (.int x1), .inl (.int x2), .inl (.int x3), .inl (.int x4)] [.inl (.int x4), .inr (34, 0), .inl (.int x2)] [.inr (34, 0), .inl (.int x4)] [.inr (34, 0), .inl (.int x1), .inl (.int x2), .inl (.int x3), .inl (.int x4)] [.inl (.int x2)] h rfl rfl pp_194 (by decide) (s_X12_isAct x4 h) (fun y1 h2 => ?_)
    refine S_br 1 43 31 [.inr (34, 0), .inl (.int x1), .inl (.int x2), .inl (.int x3), .inl (.int x4)] [.inl (.int x2)] h2 rfl (fun _ => ?_) (fun _ => ?_)
    · refine S_blk 5 (22, [.inr (34, 0), .inl (.int x1), .inl (.int (x2 ||| (0 : Int32))), .inl (.int x3), .inl (.int (x4 + (1 : Int32)))], [], h2) rfl ?_
      refine S_nrm [.inr (34, 0), .inl (.int x1), .inl (.int (x2 ||| (0 : Int32))), .inl (.int x3), .inl (.int (x4 + (1 : Int32)))] rfl ?_
      exact hrc (x2 ||| (0 : Int32)) (x4 + (1 : Int32)) h2
    · refine S_di 4 35 203 2 [.inr (34, 0), .inl (.int x1), .inl (.int x2), .inl (.int x3), .inl (.int x4)] [.inl (.int ((1 : Int32) <<< (x4 &&& 31))), .inr (34, 0), .inl (.int x2)] [.inr (34, 0), .inl (.int ((1 : Int32) <<< (x4 &&& 31)))] [.inr (34, 0), .inl (.int x1), .inl (.int x2), .inl (.int x3), .inl (.int x4)] [.inl (.int x2)] h2 rfl rfl pp_203 (by decide) (s_X12_standWithout ((1 : Int32) <<< (x4 &&& 31)) h2) (fun y3 h4 => ?_)
      refine S_di 1 37 155 0 [.inr (34, 0), .inl (.int x1), .inl (.int x2), .inl (.int x3), .inl (.int x4)] [.inl (.int x1), .inl (.int y3), .inl (.int x2)] [.inl (.int y3), .inl (.int x1)] [.inr (34, 0), .inl (.int x1), .inl (.int x2), .inl (.int x3), .inl (.int x4)] [.inl (.int x2)] h4 rfl rfl pp_155 (by decide) (s_X12_has y3 x1 h4) (fun y5 h6 => ?_)
      refine S_br 1 39 43 [.inr (34, 0), .inl (.int x1), .inl (.int x2), .inl (.int x3), .inl (.int x4)] [.inl (.int x2)] h6 rfl (fun _ => ?_) (fun _ => ?_)
      · refine S_blk 8 (22, [.inr (34, 0), .inl (.int x1), .inl (.int (x2 ||| ((1 : Int32) <<< (x4 &&& 31)))), .inl (.int x3), .inl (.int (x4 + (1 : Int32)))], [], h6) rfl ?_
        refine S_nrm [.inr (34, 0), .inl (.int x1), .inl (.int (x2 ||| ((1 : Int32) <<< (x4 &&& 31)))), .inl (.int x3), .inl (.int (x4 + (1 : Int32)))] rfl ?_
        exact hrc (x2 ||| ((1 : Int32) <<< (x4 &&& 31))) (x4 + (1 : Int32)) h6
      · refine S_blk 5 (22, [.inr (34, 0), .inl (.int x1), .inl (.int (x2 ||| (0 : Int32))), .inl (.int x3), .inl (.int (x4 + (1 : Int32)))], [], h6) rfl ?_
        refine S_nrm [.inr (34, 0), .inl (.int x1), .inl (.int (x2 ||| (0 : Int32))), .inl (.int x3), .inl (.int (x4 + (1 : Int32)))] rfl ?_
        exact hrc (x2 ||| (0 : Int32)) (x4 + (1 : Int32)) h6
theorem sl_X12_whose_22    (x1 : Int32) (x3 : Int32) : ∀ (F : Nat) (x2 : Int32) (x4 : Int32) (h : AH), Sim PP (3) k_X12_whose (22, [.inr (34, 0), .inl (.int x1), .inl (.int x2), .inl (.int x3), .inl (.int x4)], [], h) (l_X12_whose_22 F x1 x2 x3 x4 h) (fE PP (3) k_X12_whose 48 (fun v => [.inr (34, 0), .inl (.int x1), .inl (.int v), .inl (.int x3), av0])) := by
  intro F
  induction F with
  | zero => intro x2 x4 h; exact S_none
  | succ F ih => intro x2 x4 h; exact sb_X12_whose_22 (l_X12_whose_22 F) x1 x2 x3 x4 ih h
theorem sb_X12_whose_50  (rc : Int32 → Int32 → Int32 → Int32 → AH → Option (Int32 × AH)) (x1 : Int32) (x2 : Int32) (x3 : Int32) (x4 : Int32) (hrc : ∀ (x3 : Int32) (x4 : Int32) (h : AH), Sim PP (3) k_X12_whose (50, [.inr (34, 0), .inl (.int x1), .inl (.int x2), .inl (.int x3), .inl (.int x4)], [], h) (rc x1 x2 x3 x4 h) (fE PP (3) k_X12_whose 67 (fun v => [.inr (34, 0), av0, .inl (.int x2), .inl (.int v), av0])))  (h : AH) : Sim PP (3) k_X12_whose (50, [.inr (34, 0), .inl (.int x1), .inl (.int x2), .inl (.int x3), .inl (.int x4)], [], h) (b_X12_whose_50 rc x1 x2 x3 x4 h) (fE PP (3) k_X12_whose 67 (fun v => [.inr (34, 0), av0, .inl (.int x2), .inl (.int v), av0])) := by
  unfold b_X12_whose_50
  refine S_di 2 52 191 0 [.inr (34, 0), .inl (.int x1), .inl (.int x2), .inl (.int x3), .inl (.int x4)] [.inr (34, 0), .inl (.int x4)] [.inr (34, 0)] [.inr (34, 0), .inl (.int x1), .inl (.int x2), .inl (.int x3), .inl (.int x4)] [.inl (.int x4)] h rfl rfl pp_191 (by decide) (s_X12_allClaims  h) (fun y1 h2 => ?_)
  refine S_br 1 67 54 [.inr (34, 0), .inl (.int x1), .inl (.int x2), .inl (.int x3), .inl (.int x4)] [] h2 rfl (fun _ => ?_) (fun _ => ?_)
  · exact S_ex x3 (fun v => [.inr (34, 0), av0, .inl (.int x2), .inl (.int v), av0]) rfl
  · refine S_di 4 58 254 2 [.inr (34, 0), .inl (.int x1), .inl (.int x2), .inl (.int x3), .inl (.int x4)] [.inl (.int x1), .inl (.int x4), .inr (34, 0), .inl (.int x3)] [.inr (34, 0), .inl (.int x4), .inl (.int x1), av0, av0] [.inr (34, 0), .inl (.int x1), .inl (.int x2), .inl (.int x3), .inl (.int x4)] [.inl (.int x3)] h2 rfl rfl pp_254 (by decide) (s_X12_isLean x4 x1 h2) (fun y3 h4 => ?_)
    refine S_br 1 62 60 [.inr (34, 0), .inl (.int x1), .inl (.int x2), .inl (.int x3), .inl (.int x4)] [.inl (.int x3)] h4 rfl (fun _ => ?_) (fun _ => ?_)
    · refine S_blk 5 (50, [.inr (34, 0), .inl (.int x1), .inl (.int x2), .inl (.int (x3 ||| (0 : Int32))), .inl (.int (x4 + (1 : Int32)))], [], h4) rfl ?_
      refine S_nrm [.inr (34, 0), .inl (.int x1), .inl (.int x2), .inl (.int (x3 ||| (0 : Int32))), .inl (.int (x4 + (1 : Int32)))] rfl ?_
      exact hrc (x3 ||| (0 : Int32)) (x4 + (1 : Int32)) h4
    · refine S_blk 6 (50, [.inr (34, 0), .inl (.int x1), .inl (.int x2), .inl (.int (x3 ||| x4)), .inl (.int (x4 + (1 : Int32)))], [], h4) rfl ?_
      refine S_nrm [.inr (34, 0), .inl (.int x1), .inl (.int x2), .inl (.int (x3 ||| x4)), .inl (.int (x4 + (1 : Int32)))] rfl ?_
      exact hrc (x3 ||| x4) (x4 + (1 : Int32)) h4
theorem sl_X12_whose_50    (x1 : Int32) (x2 : Int32) : ∀ (F : Nat) (x3 : Int32) (x4 : Int32) (h : AH), Sim PP (3) k_X12_whose (50, [.inr (34, 0), .inl (.int x1), .inl (.int x2), .inl (.int x3), .inl (.int x4)], [], h) (l_X12_whose_50 F x1 x2 x3 x4 h) (fE PP (3) k_X12_whose 67 (fun v => [.inr (34, 0), av0, .inl (.int x2), .inl (.int v), av0])) := by
  intro F
  induction F with
  | zero => intro x3 x4 h; exact S_none
  | succ F ih => intro x3 x4 h; exact sb_X12_whose_50 (l_X12_whose_50 F) x1 x2 x3 x4 ih h
theorem sc_X12_whose_67    (x2 : Int32) (x3 : Int32)  (h : AH) : Sim PP (3) k_X12_whose (67, [.inr (34, 0), av0, .inl (.int x2), .inl (.int x3), av0], [], h) (c_X12_whose_67  x2 x3 h) fI := by
  unfold c_X12_whose_67
  refine S_di 3 70 209 1 [.inr (34, 0), av0, .inl (.int x2), .inl (.int x3), av0] [.inr (34, 0), .inl (.int x3), .inr (34, 0)] [.inr (34, 0), av0, av0] [.inr (34, 0), av0, .inl (.int x2), .inl (.int x3), av0] [.inl (.int x3), .inr (34, 0)] h rfl rfl pp_209 (by decide) (s_X12_actSet  h) (fun y1 h2 => ?_)
  refine S_di 2 73 162 0 [.inr (34, 0), av0, .inl (.int x2), .inl (.int x3), av0] [.inl (.int x2), .inl (.int (x3 &&& y1)), .inr (34, 0)] [.inr (34, 0), .inl (.int (x3 &&& y1)), .inl (.int x2)] [.inr (34, 0), av0, .inl (.int x2), .inl (.int x3), av0] [] h2 rfl rfl pp_162 (by decide) (s_X12_tells (x3 &&& y1) x2 h2) (fun y3 h4 => ?_)
  exact S_ri 0 (74, [.inr (34, 0), av0, .inl (.int x2), .inl (.int x3), av0], [.inl (.int y3)], h4) rfl rfl
theorem sc_X12_whose_48    (x1 : Int32) (x2 : Int32) (x3 : Int32)  (h : AH) : Sim PP (3) k_X12_whose (48, [.inr (34, 0), .inl (.int x1), .inl (.int x2), .inl (.int x3), av0], [], h) (c_X12_whose_48  x1 x2 x3 h) fI := by
  unfold c_X12_whose_48
  refine S_blk 2 (50, [.inr (34, 0), .inl (.int x1), .inl (.int x2), .inl (.int x3), .inl (.int (0 : Int32))], [], h) rfl ?_
  refine S_nrm [.inr (34, 0), .inl (.int x1), .inl (.int x2), .inl (.int x3), .inl (.int (0 : Int32))] rfl ?_
  refine S_lp 67 (fun v => [.inr (34, 0), av0, .inl (.int x2), .inl (.int v), av0]) (sl_X12_whose_50 x1 x2 FU x3 (0 : Int32) h) (fun v h => ?_)
  exact sc_X12_whose_67 x2 v h
theorem s_X12_whose (x1 : Int32) (h : AH) : Sim PP (3) k_X12_whose (0, [.inr (34, 0), .inl (.int x1), av0, av0, av0], [], h) (f_X12_whose x1 h) fI := by
  unfold f_X12_whose
  refine S_di 2 2 189 1 [.inr (34, 0), .inl (.int x1), av0, av0, av0] [.inl (.int x1), .inr (34, 0)] [.inr (34, 0), .inl (.int x1)] [.inr (34, 0), .inl (.int x1), av0, av0, av0] [] h rfl rfl pp_189 (by decide) (s_X12_isClaim x1 h) (fun y1 h2 => ?_)
  refine S_br 1 4 6 [.inr (34, 0), .inl (.int x1), av0, av0, av0] [] h2 rfl (fun _ => ?_) (fun _ => ?_)
  · exact S_ri 1 (5, [.inr (34, 0), .inl (.int x1), av0, av0, av0], [.inl (.int (-1 : Int32))], h2) rfl rfl
  · refine S_di 1 7 202 2 [.inr (34, 0), .inl (.int x1), av0, av0, av0] [.inr (34, 0)] [.inr (34, 0)] [.inr (34, 0), .inl (.int x1), av0, av0, av0] [] h2 rfl rfl pp_202 (by decide) (s_X12_standNow  h2) (fun y3 h4 => ?_)
    refine S_di 1 9 155 0 [.inr (34, 0), .inl (.int x1), av0, av0, av0] [.inl (.int x1), .inl (.int y3)] [.inl (.int y3), .inl (.int x1)] [.inr (34, 0), .inl (.int x1), av0, av0, av0] [] h4 rfl rfl pp_155 (by decide) (s_X12_has y3 x1 h4) (fun y5 h6 => ?_)
    refine S_br 1 11 16 [.inr (34, 0), .inl (.int x1), av0, av0, av0] [] h6 rfl (fun _ => ?_) (fun _ => ?_)
    · refine S_di 3 14 162 0 [.inr (34, 0), .inl (.int x1), av0, av0, av0] [.inl (.int (0 : Int32)), .inl (.int (0 : Int32)), .inr (34, 0)] [.inr (34, 0), .inl (.int (0 : Int32)), .inl (.int (0 : Int32))] [.inr (34, 0), .inl (.int x1), av0, av0, av0] [] h6 rfl rfl pp_162 (by decide) (s_X12_tells (0 : Int32) (0 : Int32) h6) (fun y7 h8 => ?_)
      exact S_ri 0 (15, [.inr (34, 0), .inl (.int x1), av0, av0, av0], [.inl (.int y7)], h8) rfl rfl
    · refine S_blk 6 (22, [.inr (34, 0), .inl (.int x1), .inl (.int (0 : Int32)), .inl (.int (0 : Int32)), .inl (.int (0 : Int32))], [], h6) rfl ?_
      refine S_nrm [.inr (34, 0), .inl (.int x1), .inl (.int (0 : Int32)), .inl (.int (0 : Int32)), .inl (.int (0 : Int32))] rfl ?_
      refine S_lp 48 (fun v => [.inr (34, 0), .inl (.int x1), .inl (.int v), .inl (.int (0 : Int32)), av0]) (sl_X12_whose_22 x1 (0 : Int32) FU (0 : Int32) (0 : Int32) h6) (fun v h => ?_)
      exact sc_X12_whose_48 x1 v (0 : Int32) h
theorem sb_X11_refusalOfTale_40  (rc : Int32 → Int32 → Int32 → AH → Option (Int32 × AH)) (x1 : Int32) (x2 : Int32) (x3 : Int32) (hrc : ∀ (x1 : Int32) (x2 : Int32) (x3 : Int32) (h : AH), Sim PP (1) k_X11_refusalOfTale (40, [.inr (0, 0), .inl (.int x1), .inl (.int x2), .inl (.int x3), av0], [], h) (rc x1 x2 x3 h) fI)  (h : AH) : Sim PP (1) k_X11_refusalOfTale (40, [.inr (0, 0), .inl (.int x1), .inl (.int x2), .inl (.int x3), av0], [], h) (b_X11_refusalOfTale_40 rc x1 x2 x3 h) fI := by
  unfold b_X11_refusalOfTale_40
  refine S_br 3 71 43 [.inr (0, 0), .inl (.int x1), .inl (.int x2), .inl (.int x3), av0] [] h rfl (fun _ => ?_) (fun _ => ?_)
  · exact S_ri 1 (72, [av0, av0, av0, av0, av0], [.inl (.int (0 : Int32))], h) rfl rfl
  · refine S_grd 4 (47, [.inr (0, 0), .inl (.int x1), .inl (.int x2), .inl (.int x3), av0], [.inr (2, (x1.toNatClampNeg))], h) rfl (fun _ => ?_)
    refine S_grd 3 (50, [.inr (0, 0), .inl (.int x1), .inl (.int x2), .inl (.int x3), av0], [.inl (.int (h.1 3 (x1.toNatClampNeg) x3.toNatClampNeg))], h) rfl (fun _ => ?_)
    refine S_gn 4 (c := (2 : Int32) = 0) (54, [.inr (0, 0), .inl (.int x1), .inl (.int x2), .inl (.int x3), .inl (.int (h.1 3 (x1.toNatClampNeg) x3.toNatClampNeg))], [.inl (.int (x3 - x3 / (2 : Int32) * (2 : Int32)))], h) rfl (by decide) ?_
    refine S_br 2 56 61 [.inr (0, 0), .inl (.int x1), .inl (.int x2), .inl (.int x3), .inl (.int (h.1 3 (x1.toNatClampNeg) x3.toNatClampNeg))] [] h rfl (fun _ => ?_) (fun _ => ?_)
    · refine S_di 2 58 137 0 [.inr (0, 0), .inl (.int x1), .inl (.int x2), .inl (.int x3), .inl (.int (h.1 3 (x1.toNatClampNeg) x3.toNatClampNeg))] [.inl (.int (h.1 3 (x1.toNatClampNeg) x3.toNatClampNeg)), .inr (0, 0)] [.inr (0, 0), .inl (.int (h.1 3 (x1.toNatClampNeg) x3.toNatClampNeg))] [.inr (0, 0), .inl (.int x1), .inl (.int x2), .inl (.int x3), .inl (.int (h.1 3 (x1.toNatClampNeg) x3.toNatClampNeg))] [] h rfl rfl pp_137 (by decide) (s_X11_isReason (h.1 3 (x1.toNatClampNeg) x3.toNatClampNeg) h) (fun y1 h2 => ?_)
      refine S_br 1 60 69 [.inr (0, 0), .inl (.int x1), .inl (.int x2), .inl (.int x3), .inl (.int (h.1 3 (x1.toNatClampNeg) x3.toNatClampNeg))] [] h2 rfl (fun _ => ?_) (fun _ => ?_)
      · refine S_di 3 67 131 0 [.inr (0, 0), av0, av0, av0, av0] [.inl (.int (3 : Int32)), .inr (0, 0)] [.inr (0, 0), .inl (.int (3 : Int32))] [.inr (0, 0), av0, av0, av0, av0] [] h2 rfl rfl pp_131 (by decide) (s_X11_refuse (3 : Int32) h2) (fun y3 h4 => ?_)
        exact S_ri 0 (68, [.inr (0, 0), av0, av0, av0, av0], [.inl (.int y3)], h4) rfl rfl
      · refine S_blk 2 (40, [.inr (0, 0), .inl (.int x1), .inl (.int x2), .inl (.int (x3 + (1 : Int32))), .inl (.int (h.1 3 (x1.toNatClampNeg) x3.toNatClampNeg))], [], h2) rfl ?_
        refine S_nrm [.inr (0, 0), .inl (.int x1), .inl (.int x2), .inl (.int (x3 + (1 : Int32))), av0] rfl ?_
        exact hrc x1 x2 (x3 + (1 : Int32)) h2
    · refine S_di 2 63 136 0 [.inr (0, 0), .inl (.int x1), .inl (.int x2), .inl (.int x3), .inl (.int (h.1 3 (x1.toNatClampNeg) x3.toNatClampNeg))] [.inl (.int (h.1 3 (x1.toNatClampNeg) x3.toNatClampNeg)), .inr (0, 0)] [.inr (0, 0), .inl (.int (h.1 3 (x1.toNatClampNeg) x3.toNatClampNeg))] [.inr (0, 0), .inl (.int x1), .inl (.int x2), .inl (.int x3), .inl (.int (h.1 3 (x1.toNatClampNeg) x3.toNatClampNeg))] [] h rfl rfl pp_136 (by decide) (s_X11_isClaim (h.1 3 (x1.toNatClampNeg) x3.toNatClampNeg) h) (fun y5 h6 => ?_)
      refine S_br 1 65 69 [.inr (0, 0), .inl (.int x1), .inl (.int x2), .inl (.int x3), .inl (.int (h.1 3 (x1.toNatClampNeg) x3.toNatClampNeg))] [] h6 rfl (fun _ => ?_) (fun _ => ?_)
      · refine S_di 2 67 131 0 [.inr (0, 0), av0, av0, av0, av0] [.inl (.int (3 : Int32)), .inr (0, 0)] [.inr (0, 0), .inl (.int (3 : Int32))] [.inr (0, 0), av0, av0, av0, av0] [] h6 rfl rfl pp_131 (by decide) (s_X11_refuse (3 : Int32) h6) (fun y7 h8 => ?_)
        exact S_ri 0 (68, [.inr (0, 0), av0, av0, av0, av0], [.inl (.int y7)], h8) rfl rfl
      · refine S_blk 2 (40, [.inr (0, 0), .inl (.int x1), .inl (.int x2), .inl (.int (x3 + (1 : Int32))), .inl (.int (h.1 3 (x1.toNatClampNeg) x3.toNatClampNeg))], [], h6) rfl ?_
        refine S_nrm [.inr (0, 0), .inl (.int x1), .inl (.int x2), .inl (.int (x3 + (1 : Int32))), av0] rfl ?_
        exact hrc x1 x2 (x3 + (1 : Int32)) h6
theorem sl_X11_refusalOfTale_40     : ∀ (F : Nat) (x1 : Int32) (x2 : Int32) (x3 : Int32) (h : AH), Sim PP (1) k_X11_refusalOfTale (40, [.inr (0, 0), .inl (.int x1), .inl (.int x2), .inl (.int x3), av0], [], h) (l_X11_refusalOfTale_40 F x1 x2 x3 h) fI := by
  intro F
  induction F with
  | zero => intro x1 x2 x3 h; exact S_none
  | succ F ih => intro x1 x2 x3 h; exact sb_X11_refusalOfTale_40 (l_X11_refusalOfTale_40 F) x1 x2 x3 ih h
theorem s_X11_refusalOfTale (x1 : Int32) (h : AH) : Sim PP (1) k_X11_refusalOfTale (0, [.inr (0, 0), .inl (.int x1), av0, av0, av0], [], h) (f_X11_refusalOfTale x1 h) fI := by
  unfold f_X11_refusalOfTale
  refine S_di 1 1 132 0 [.inr (0, 0), .inl (.int x1), av0, av0, av0] [.inl (.int x1)] [.inl (.int x1)] [.inr (0, 0), .inl (.int x1), av0, av0, av0] [] h rfl rfl pp_132 (by decide) (s_X11_isRow x1 h) (fun y1 h2 => ?_)
  refine S_br 1 3 5 [.inr (0, 0), .inl (.int x1), av0, av0, av0] [] h2 rfl (fun _ => ?_) (fun _ => ?_)
  · exact S_ri 1 (4, [.inr (0, 0), .inl (.int x1), av0, av0, av0], [.inl (.int (-1 : Int32))], h2) rfl rfl
  · refine S_br 4 9 11 [.inr (0, 0), .inl (.int x1), av0, av0, av0] [] h2 rfl (fun _ => ?_) (fun _ => ?_)
    · exact S_ri 1 (10, [.inr (0, 0), .inl (.int x1), av0, av0, av0], [.inl (.int (-4 : Int32))], h2) rfl rfl
    · refine S_grd 4 (15, [.inr (0, 0), .inl (.int x1), av0, av0, av0], [.inr (2, (x1.toNatClampNeg))], h2) rfl (fun _ => ?_)
      refine S_di 0 15 40 0 [.inr (0, 0), .inl (.int x1), av0, av0, av0] [.inr (2, (x1.toNatClampNeg))] [.inr (2, (x1.toNatClampNeg))] [.inr (0, 0), .inl (.int x1), av0, av0, av0] [] h2 rfl rfl pp_40 (by decide) (s_X5_isMissing (x1.toNatClampNeg) h2) (fun y3 h4 => ?_)
      refine S_br 1 21 17 [.inr (0, 0), .inl (.int x1), av0, av0, av0] [] h4 rfl (fun _ => ?_) (fun _ => ?_)
      · refine S_grd 4 (25, [.inr (0, 0), .inl (.int x1), av0, av0, av0], [.inr (2, (x1.toNatClampNeg))], h4) rfl (fun _ => ?_)
        refine S_gn 5 (c := (2 : Int32) = 0) (30, [.inr (0, 0), .inl (.int x1), .inl (.int (h4.1 2 (x1.toNatClampNeg) 1)), av0, av0], [.inl (.int ((h4.1 2 (x1.toNatClampNeg) 1) - (h4.1 2 (x1.toNatClampNeg) 1) / (2 : Int32) * (2 : Int32)))], h4) rfl (by decide) ?_
        refine S_br 1 34 31 [.inr (0, 0), .inl (.int x1), .inl (.int (h4.1 2 (x1.toNatClampNeg) 1)), av0, av0] [] h4 rfl (fun _ => ?_) (fun _ => ?_)
        · refine S_di 2 36 131 0 [.inr (0, 0), .inl (.int x1), .inl (.int (h4.1 2 (x1.toNatClampNeg) 1)), av0, av0] [.inl (.int (5 : Int32)), .inr (0, 0)] [.inr (0, 0), .inl (.int (5 : Int32))] [.inr (0, 0), .inl (.int x1), .inl (.int (h4.1 2 (x1.toNatClampNeg) 1)), av0, av0] [] h4 rfl rfl pp_131 (by decide) (s_X11_refuse (5 : Int32) h4) (fun y5 h6 => ?_)
          exact S_ri 0 (37, [.inr (0, 0), .inl (.int x1), .inl (.int (h4.1 2 (x1.toNatClampNeg) 1)), av0, av0], [.inl (.int y5)], h6) rfl rfl
        · refine S_br 3 38 34 [.inr (0, 0), .inl (.int x1), .inl (.int (h4.1 2 (x1.toNatClampNeg) 1)), av0, av0] [] h4 rfl (fun _ => ?_) (fun _ => ?_)
          · refine S_blk 2 (40, [.inr (0, 0), .inl (.int x1), .inl (.int (h4.1 2 (x1.toNatClampNeg) 1)), .inl (.int (0 : Int32)), av0], [], h4) rfl ?_
            refine S_nrm [.inr (0, 0), .inl (.int x1), .inl (.int (h4.1 2 (x1.toNatClampNeg) 1)), .inl (.int (0 : Int32)), av0] rfl ?_
            exact (sl_X11_refusalOfTale_40  FU x1 (h4.1 2 (x1.toNatClampNeg) 1) (0 : Int32) h4)
          · refine S_di 2 36 131 0 [.inr (0, 0), .inl (.int x1), .inl (.int (h4.1 2 (x1.toNatClampNeg) 1)), av0, av0] [.inl (.int (5 : Int32)), .inr (0, 0)] [.inr (0, 0), .inl (.int (5 : Int32))] [.inr (0, 0), .inl (.int x1), .inl (.int (h4.1 2 (x1.toNatClampNeg) 1)), av0, av0] [] h4 rfl rfl pp_131 (by decide) (s_X11_refuse (5 : Int32) h4) (fun y7 h8 => ?_)
            exact S_ri 0 (37, [.inr (0, 0), .inl (.int x1), .inl (.int (h4.1 2 (x1.toNatClampNeg) 1)), av0, av0], [.inl (.int y7)], h8) rfl rfl
      · refine S_di 2 19 131 0 [.inr (0, 0), .inl (.int x1), av0, av0, av0] [.inl (.int (1 : Int32)), .inr (0, 0)] [.inr (0, 0), .inl (.int (1 : Int32))] [.inr (0, 0), .inl (.int x1), av0, av0, av0] [] h4 rfl rfl pp_131 (by decide) (s_X11_refuse (1 : Int32) h4) (fun y9 h10 => ?_)
        exact S_ri 0 (20, [.inr (0, 0), .inl (.int x1), av0, av0, av0], [.inl (.int y9)], h10) rfl rfl
theorem sb_X8_goodPairs_18  (rc : Nat → Int32 → Int32 → Int32 → Int32 → Int32 → AH → Option (Int32 × AH)) (r1 : Nat) (x2 : Int32) (x3 : Int32) (x4 : Int32) (x5 : Int32) (x6 : Int32) (hrc : ∀ (r1 : Nat) (x2 : Int32) (x3 : Int32) (x4 : Int32) (x5 : Int32) (x6 : Int32) (h : AH), Sim PP (4) k_X8_goodPairs (18, [.inr (28, 0), .inr (2, r1), .inl (.int x2), .inl (.int x3), .inl (.int x4), .inl (.int x5), .inl (.int x6), av0, av0], [], h) (rc r1 x2 x3 x4 x5 x6 h) fI)  (h : AH) : Sim PP (4) k_X8_goodPairs (18, [.inr (28, 0), .inr (2, r1), .inl (.int x2), .inl (.int x3), .inl (.int x4), .inl (.int x5), .inl (.int x6), av0, av0], [], h) (b_X8_goodPairs_18 rc r1 x2 x3 x4 x5 x6 h) fI := by
  unfold b_X8_goodPairs_18
  refine S_br 3 66 21 [.inr (28, 0), .inr (2, r1), .inl (.int x2), .inl (.int x3), .inl (.int x4), .inl (.int x5), .inl (.int x6), av0, av0] [] h rfl (fun _ => ?_) (fun _ => ?_)
  · refine S_br 9 75 77 [.inr (28, 0), av0, .inl (.int x2), .inl (.int x3), av0, .inl (.int x5), av0, av0, av0] [.inl (.int x2), .inr (18, 0), .inr (28, 0)] h rfl (fun _ => ?_) (fun _ => ?_)
    · refine S_di 2 78 6 3 [.inr (28, 0), av0, .inl (.int x2), .inl (.int x3), av0, .inl (.int x5), av0, av0, av0] [.inl (.int x3), .inl (.int x2), .inr (18, 0), .inr (28, 0)] [.inr (18, 0), .inl (.int x2), .inl (.int x3)] [.inr (28, 0), av0, .inl (.int x2), .inl (.int x3), av0, .inl (.int x5), av0, av0, av0] [.inr (28, 0)] h rfl rfl pp_6 (by decide) (s_X0_wayOut x2 x3 h) (fun y1 h2 => ?_)
      exact S_ri 2 (81, [.inr (28, 0), av0, .inl (.int x2), .inl (.int x3), av0, .inl (.int x5), av0, av0, av0], [.inl (.int x5)], (hsI h2 28 0 3 y1)) rfl rfl
    · refine S_di 1 78 6 3 [.inr (28, 0), av0, .inl (.int x2), .inl (.int x3), av0, .inl (.int x5), av0, av0, av0] [.inl (.int (0 : Int32)), .inl (.int x2), .inr (18, 0), .inr (28, 0)] [.inr (18, 0), .inl (.int x2), .inl (.int (0 : Int32))] [.inr (28, 0), av0, .inl (.int x2), .inl (.int x3), av0, .inl (.int x5), av0, av0, av0] [.inr (28, 0)] h rfl rfl pp_6 (by decide) (s_X0_wayOut x2 (0 : Int32) h) (fun y3 h4 => ?_)
      exact S_ri 2 (81, [.inr (28, 0), av0, .inl (.int x2), .inl (.int x3), av0, .inl (.int x5), av0, av0, av0], [.inl (.int x5)], (hsI h4 28 0 3 y3)) rfl rfl
  · refine S_grd 8 (29, [.inr (28, 0), .inr (2, r1), .inl (.int x2), .inl (.int x3), .inl (.int x4), .inl (.int x5), .inl (.int x6), av0, av0], [.inl (.int (h.1 3 r1 (((2 : Int32) * x6) + (1 : Int32)).toNatClampNeg))], h) rfl (fun _ => ?_)
    refine S_grd 9 (38, [.inr (28, 0), .inr (2, r1), .inl (.int x2), .inl (.int x3), .inl (.int x4), .inl (.int x5), .inl (.int x6), .inl (.int (h.1 3 r1 (((2 : Int32) * x6) + (1 : Int32)).toNatClampNeg)), av0], [.inl (.int (h.1 3 r1 (((2 : Int32) * x6) + (2 : Int32)).toNatClampNeg))], h) rfl (fun _ => ?_)
    refine S_br 11 49 51 [.inr (28, 0), .inr (2, r1), .inl (.int x2), .inl (.int x3), .inl (.int x4), .inl (.int x5), .inl (.int x6), .inl (.int (h.1 3 r1 (((2 : Int32) * x6) + (1 : Int32)).toNatClampNeg)), .inl (.int (h.1 3 r1 (((2 : Int32) * x6) + (2 : Int32)).toNatClampNeg))] [.inl (.int (h.1 3 r1 (((2 : Int32) * x6) + (2 : Int32)).toNatClampNeg)), .inl (.int (h.1 3 r1 (((2 : Int32) * x6) + (1 : Int32)).toNatClampNeg)), .inl (.int x2), .inr (18, 0)] h rfl (fun _ => ?_) (fun _ => ?_)
    · refine S_di 2 52 5 3 [.inr (28, 0), .inr (2, r1), .inl (.int x2), .inl (.int x3), .inl (.int x4), .inl (.int x5), .inl (.int x6), .inl (.int (h.1 3 r1 (((2 : Int32) * x6) + (1 : Int32)).toNatClampNeg)), .inl (.int (h.1 3 r1 (((2 : Int32) * x6) + (2 : Int32)).toNatClampNeg))] [.inl (.int x3), .inl (.int (h.1 3 r1 (((2 : Int32) * x6) + (2 : Int32)).toNatClampNeg)), .inl (.int (h.1 3 r1 (((2 : Int32) * x6) + (1 : Int32)).toNatClampNeg)), .inl (.int x2), .inr (18, 0)] [.inr (18, 0), .inl (.int x2), .inl (.int (h.1 3 r1 (((2 : Int32) * x6) + (1 : Int32)).toNatClampNeg)), .inl (.int (h.1 3 r1 (((2 : Int32) * x6) + (2 : Int32)).toNatClampNeg)), .inl (.int x3)] [.inr (28, 0), .inr (2, r1), .inl (.int x2), .inl (.int x3), .inl (.int x4), .inl (.int x5), .inl (.int x6), .inl (.int (h.1 3 r1 (((2 : Int32) * x6) + (1 : Int32)).toNatClampNeg)), .inl (.int (h.1 3 r1 (((2 : Int32) * x6) + (2 : Int32)).toNatClampNeg))] [] h rfl rfl pp_5 (by decide) (s_X0_canGo x2 (h.1 3 r1 (((2 : Int32) * x6) + (1 : Int32)).toNatClampNeg) (h.1 3 r1 (((2 : Int32) * x6) + (2 : Int32)).toNatClampNeg) x3 h) (fun y5 h6 => ?_)
      refine S_br 1 54 55 [.inr (28, 0), .inr (2, r1), .inl (.int x2), .inl (.int x3), .inl (.int x4), .inl (.int x5), .inl (.int x6), .inl (.int (h.1 3 r1 (((2 : Int32) * x6) + (1 : Int32)).toNatClampNeg)), .inl (.int (h.1 3 r1 (((2 : Int32) * x6) + (2 : Int32)).toNatClampNeg))] [] h6 rfl (fun _ => ?_) (fun _ => ?_)
      · refine S_br 10 75 77 [.inr (28, 0), av0, .inl (.int x2), .inl (.int x3), av0, .inl (.int x5), av0, av0, av0] [.inl (.int x2), .inr (18, 0), .inr (28, 0)] h6 rfl (fun _ => ?_) (fun _ => ?_)
        · refine S_di 2 78 6 3 [.inr (28, 0), av0, .inl (.int x2), .inl (.int x3), av0, .inl (.int x5), av0, av0, av0] [.inl (.int x3), .inl (.int x2), .inr (18, 0), .inr (28, 0)] [.inr (18, 0), .inl (.int x2), .inl (.int x3)] [.inr (28, 0), av0, .inl (.int x2), .inl (.int x3), av0, .inl (.int x5), av0, av0, av0] [.inr (28, 0)] h6 rfl rfl pp_6 (by decide) (s_X0_wayOut x2 x3 h6) (fun y7 h8 => ?_)
          exact S_ri 2 (81, [.inr (28, 0), av0, .inl (.int x2), .inl (.int x3), av0, .inl (.int x5), av0, av0, av0], [.inl (.int x5)], (hsI h8 28 0 3 y7)) rfl rfl
        · refine S_di 1 78 6 3 [.inr (28, 0), av0, .inl (.int x2), .inl (.int x3), av0, .inl (.int x5), av0, av0, av0] [.inl (.int (0 : Int32)), .inl (.int x2), .inr (18, 0), .inr (28, 0)] [.inr (18, 0), .inl (.int x2), .inl (.int (0 : Int32))] [.inr (28, 0), av0, .inl (.int x2), .inl (.int x3), av0, .inl (.int x5), av0, av0, av0] [.inr (28, 0)] h6 rfl rfl pp_6 (by decide) (s_X0_wayOut x2 (0 : Int32) h6) (fun y9 h10 => ?_)
          exact S_ri 2 (81, [.inr (28, 0), av0, .inl (.int x2), .inl (.int x3), av0, .inl (.int x5), av0, av0, av0], [.inl (.int x5)], (hsI h10 28 0 3 y9)) rfl rfl
      · refine S_blk 11 (18, [.inr (28, 0), .inr (2, r1), .inl (.int (h.1 3 r1 (((2 : Int32) * x6) + (2 : Int32)).toNatClampNeg)), .inl (.int (x3 ||| ((1 : Int32) <<< ((h.1 3 r1 (((2 : Int32) * x6) + (2 : Int32)).toNatClampNeg) &&& 31)))), .inl (.int x4), .inl (.int (x5 + (1 : Int32))), .inl (.int (x6 + (1 : Int32))), .inl (.int (h.1 3 r1 (((2 : Int32) * x6) + (1 : Int32)).toNatClampNeg)), .inl (.int (h.1 3 r1 (((2 : Int32) * x6) + (2 : Int32)).toNatClampNeg))], [], h6) rfl ?_
        refine S_nrm [.inr (28, 0), .inr (2, r1), .inl (.int (h.1 3 r1 (((2 : Int32) * x6) + (2 : Int32)).toNatClampNeg)), .inl (.int (x3 ||| ((1 : Int32) <<< ((h.1 3 r1 (((2 : Int32) * x6) + (2 : Int32)).toNatClampNeg) &&& 31)))), .inl (.int x4), .inl (.int (x5 + (1 : Int32))), .inl (.int (x6 + (1 : Int32))), av0, av0] rfl ?_
        exact hrc r1 (h.1 3 r1 (((2 : Int32) * x6) + (2 : Int32)).toNatClampNeg) (x3 ||| ((1 : Int32) <<< ((h.1 3 r1 (((2 : Int32) * x6) + (2 : Int32)).toNatClampNeg) &&& 31))) x4 (x5 + (1 : Int32)) (x6 + (1 : Int32)) h6
    · refine S_di 1 52 5 3 [.inr (28, 0), .inr (2, r1), .inl (.int x2), .inl (.int x3), .inl (.int x4), .inl (.int x5), .inl (.int x6), .inl (.int (h.1 3 r1 (((2 : Int32) * x6) + (1 : Int32)).toNatClampNeg)), .inl (.int (h.1 3 r1 (((2 : Int32) * x6) + (2 : Int32)).toNatClampNeg))] [.inl (.int (0 : Int32)), .inl (.int (h.1 3 r1 (((2 : Int32) * x6) + (2 : Int32)).toNatClampNeg)), .inl (.int (h.1 3 r1 (((2 : Int32) * x6) + (1 : Int32)).toNatClampNeg)), .inl (.int x2), .inr (18, 0)] [.inr (18, 0), .inl (.int x2), .inl (.int (h.1 3 r1 (((2 : Int32) * x6) + (1 : Int32)).toNatClampNeg)), .inl (.int (h.1 3 r1 (((2 : Int32) * x6) + (2 : Int32)).toNatClampNeg)), .inl (.int (0 : Int32))] [.inr (28, 0), .inr (2, r1), .inl (.int x2), .inl (.int x3), .inl (.int x4), .inl (.int x5), .inl (.int x6), .inl (.int (h.1 3 r1 (((2 : Int32) * x6) + (1 : Int32)).toNatClampNeg)), .inl (.int (h.1 3 r1 (((2 : Int32) * x6) + (2 : Int32)).toNatClampNeg))] [] h rfl rfl pp_5 (by decide) (s_X0_canGo x2 (h.1 3 r1 (((2 : Int32) * x6) + (1 : Int32)).toNatClampNeg) (h.1 3 r1 (((2 : Int32) * x6) + (2 : Int32)).toNatClampNeg) (0 : Int32) h) (fun y11 h12 => ?_)
      refine S_br 1 54 55 [.inr (28, 0), .inr (2, r1), .inl (.int x2), .inl (.int x3), .inl (.int x4), .inl (.int x5), .inl (.int x6), .inl (.int (h.1 3 r1 (((2 : Int32) * x6) + (1 : Int32)).toNatClampNeg)), .inl (.int (h.1 3 r1 (((2 : Int32) * x6) + (2 : Int32)).toNatClampNeg))] [] h12 rfl (fun _ => ?_) (fun _ => ?_)
      · refine S_br 10 75 77 [.inr (28, 0), av0, .inl (.int x2), .inl (.int x3), av0, .inl (.int x5), av0, av0, av0] [.inl (.int x2), .inr (18, 0), .inr (28, 0)] h12 rfl (fun _ => ?_) (fun _ => ?_)
        · refine S_di 2 78 6 3 [.inr (28, 0), av0, .inl (.int x2), .inl (.int x3), av0, .inl (.int x5), av0, av0, av0] [.inl (.int x3), .inl (.int x2), .inr (18, 0), .inr (28, 0)] [.inr (18, 0), .inl (.int x2), .inl (.int x3)] [.inr (28, 0), av0, .inl (.int x2), .inl (.int x3), av0, .inl (.int x5), av0, av0, av0] [.inr (28, 0)] h12 rfl rfl pp_6 (by decide) (s_X0_wayOut x2 x3 h12) (fun y13 h14 => ?_)
          exact S_ri 2 (81, [.inr (28, 0), av0, .inl (.int x2), .inl (.int x3), av0, .inl (.int x5), av0, av0, av0], [.inl (.int x5)], (hsI h14 28 0 3 y13)) rfl rfl
        · refine S_di 1 78 6 3 [.inr (28, 0), av0, .inl (.int x2), .inl (.int x3), av0, .inl (.int x5), av0, av0, av0] [.inl (.int (0 : Int32)), .inl (.int x2), .inr (18, 0), .inr (28, 0)] [.inr (18, 0), .inl (.int x2), .inl (.int (0 : Int32))] [.inr (28, 0), av0, .inl (.int x2), .inl (.int x3), av0, .inl (.int x5), av0, av0, av0] [.inr (28, 0)] h12 rfl rfl pp_6 (by decide) (s_X0_wayOut x2 (0 : Int32) h12) (fun y15 h16 => ?_)
          exact S_ri 2 (81, [.inr (28, 0), av0, .inl (.int x2), .inl (.int x3), av0, .inl (.int x5), av0, av0, av0], [.inl (.int x5)], (hsI h16 28 0 3 y15)) rfl rfl
      · refine S_blk 11 (18, [.inr (28, 0), .inr (2, r1), .inl (.int (h.1 3 r1 (((2 : Int32) * x6) + (2 : Int32)).toNatClampNeg)), .inl (.int (x3 ||| ((1 : Int32) <<< ((h.1 3 r1 (((2 : Int32) * x6) + (2 : Int32)).toNatClampNeg) &&& 31)))), .inl (.int x4), .inl (.int (x5 + (1 : Int32))), .inl (.int (x6 + (1 : Int32))), .inl (.int (h.1 3 r1 (((2 : Int32) * x6) + (1 : Int32)).toNatClampNeg)), .inl (.int (h.1 3 r1 (((2 : Int32) * x6) + (2 : Int32)).toNatClampNeg))], [], h12) rfl ?_
        refine S_nrm [.inr (28, 0), .inr (2, r1), .inl (.int (h.1 3 r1 (((2 : Int32) * x6) + (2 : Int32)).toNatClampNeg)), .inl (.int (x3 ||| ((1 : Int32) <<< ((h.1 3 r1 (((2 : Int32) * x6) + (2 : Int32)).toNatClampNeg) &&& 31)))), .inl (.int x4), .inl (.int (x5 + (1 : Int32))), .inl (.int (x6 + (1 : Int32))), av0, av0] rfl ?_
        exact hrc r1 (h.1 3 r1 (((2 : Int32) * x6) + (2 : Int32)).toNatClampNeg) (x3 ||| ((1 : Int32) <<< ((h.1 3 r1 (((2 : Int32) * x6) + (2 : Int32)).toNatClampNeg) &&& 31))) x4 (x5 + (1 : Int32)) (x6 + (1 : Int32)) h12
theorem sl_X8_goodPairs_18     : ∀ (F : Nat) (r1 : Nat) (x2 : Int32) (x3 : Int32) (x4 : Int32) (x5 : Int32) (x6 : Int32) (h : AH), Sim PP (4) k_X8_goodPairs (18, [.inr (28, 0), .inr (2, r1), .inl (.int x2), .inl (.int x3), .inl (.int x4), .inl (.int x5), .inl (.int x6), av0, av0], [], h) (l_X8_goodPairs_18 F r1 x2 x3 x4 x5 x6 h) fI := by
  intro F
  induction F with
  | zero => intro r1 x2 x3 x4 x5 x6 h; exact S_none
  | succ F ih => intro r1 x2 x3 x4 x5 x6 h; exact sb_X8_goodPairs_18 (l_X8_goodPairs_18 F) r1 x2 x3 x4 x5 x6 ih h
theorem s_X8_goodPairs (r1 : Nat) (h : AH) : Sim PP (4) k_X8_goodPairs (0, [.inr (28, 0), .inr (2, r1), av0, av0, av0, av0, av0, av0, av0], [], h) (f_X8_goodPairs r1 h) fI := by
  unfold f_X8_goodPairs
  refine S_gt 4 (c := inb (0 : Int32) 40 = true) (4, [.inr (28, 0), .inr (2, r1), av0, av0, av0, av0, av0, av0, av0], [.inl (.int (h.1 3 r1 (0 : Int32).toNatClampNeg))], h) rfl (by decide) ?_
  refine S_gn 9 (c := (2 : Int32) = 0) (13, [.inr (28, 0), .inr (2, r1), .inl (.int (h.1 3 r1 (0 : Int32).toNatClampNeg)), .inl (.int ((1 : Int32) <<< ((h.1 3 r1 (0 : Int32).toNatClampNeg) &&& 31))), av0, av0, av0, av0, av0], [.inl (.int ((h.1 2 r1 1) / (2 : Int32)))], h) rfl (by decide) ?_
  refine S_blk 5 (18, [.inr (28, 0), .inr (2, r1), .inl (.int (h.1 3 r1 (0 : Int32).toNatClampNeg)), .inl (.int ((1 : Int32) <<< ((h.1 3 r1 (0 : Int32).toNatClampNeg) &&& 31))), .inl (.int ((h.1 2 r1 1) / (2 : Int32))), .inl (.int (0 : Int32)), .inl (.int (0 : Int32)), av0, av0], [], h) rfl ?_
  refine S_nrm [.inr (28, 0), .inr (2, r1), .inl (.int (h.1 3 r1 (0 : Int32).toNatClampNeg)), .inl (.int ((1 : Int32) <<< ((h.1 3 r1 (0 : Int32).toNatClampNeg) &&& 31))), .inl (.int ((h.1 2 r1 1) / (2 : Int32))), .inl (.int (0 : Int32)), .inl (.int (0 : Int32)), av0, av0] rfl ?_
  exact (sl_X8_goodPairs_18  FU r1 (h.1 3 r1 (0 : Int32).toNatClampNeg) ((1 : Int32) <<< ((h.1 3 r1 (0 : Int32).toNatClampNeg) &&& 31)) ((h.1 2 r1 1) / (2 : Int32)) (0 : Int32) (0 : Int32) h)
