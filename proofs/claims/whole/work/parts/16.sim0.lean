section SB
variable {P : Nat → List IE} {C : List IE} {d : Nat} {ρ σ : Type} {Φ : ρ × AH → Rs → Prop} {x : Cf} {T : Option (ρ × AH)}
theorem S_gt (k : Nat) {c : Prop} {ic : Decidable c} (y : Cf) (hb : steps C k x = if c then some y else none) (hc : c) (h1 : Sim P d C y T Φ) : Sim P d C x T Φ := S_blk k y (by rw [hb, if_pos hc]) h1
theorem S_gn (k : Nat) {c : Prop} {ic : Decidable c} (y : Cf) (hb : steps C k x = if c then none else some y) (hc : ¬ c) (h1 : Sim P d C y T Φ) : Sim P d C x T Φ := S_blk k y (by rw [hb, if_neg hc]) h1
theorem S_lt {α : Type} (cf : α → Cf) (e : α) {K : α → Option (ρ × AH)} (h : ∀ y, Sim P d C (cf y) (K y) Φ) : Sim P d C (cf e) (lt e K) Φ := h e
theorem S_ex {ix : Nat} {L1 : List AV} {h : AH} (v : ρ) (L : ρ → List AV) (hk : clr (ksA C ix) L1 = clr (ksA C ix) (L v)) : Sim P d C (ix, L1, [], h) (some (v, h)) (fE P d C ix L) := S_exit (st := []) v L hk
theorem S_lp {T1 : Option (σ × AH)} {K : σ → AH → Option (ρ × AH)} (E : Nat) (L : σ → List AV) (h1 : Sim P d C x T1 (fE P d C E L)) (h2 : ∀ (v : σ) (h : AH), Sim P d C (E, L v, [], h) (K v h) Φ) : Sim P d C x (bd T1 K) Φ := S_loop (K := fun y => K y.1 y.2) E L h1 h2
theorem S_di (k ix a dc : Nat) {C' : List IE} (L st L0 L' rest : List AV) (h : AH) {T1 : Option (Int32 × AH)} {K : Int32 → AH → Option (ρ × AH)} (hb : steps C k x = some (ix, L, st, h)) (hc : callX C ix L st = some (a, L0, L', rest)) (hp : P a = C') (hd : dc + 1 ≤ d) (h1 : Sim P dc C' (0, L0, [], h) T1 fI) (h2 : ∀ (r : Int32) (h' : AH), Sim P d C (ix + 1, L', .inl (.int r) :: rest, h') (K r h') Φ) : Sim P d C x (bd T1 K) Φ := S_ci (K := fun y => K y.1 y.2) k ix a dc L st L0 L' rest h hb hc hp hd h1 h2
theorem S_dl (k ix a dc : Nat) {C' : List IE} (L st L0 L' rest : List AV) (h : AH) {T1 : Option (Int64 × AH)} {K : Int64 → AH → Option (ρ × AH)} (hb : steps C k x = some (ix, L, st, h)) (hc : callX C ix L st = some (a, L0, L', rest)) (hp : P a = C') (hd : dc + 1 ≤ d) (h1 : Sim P dc C' (0, L0, [], h) T1 fL) (h2 : ∀ (r : Int64) (h' : AH), Sim P d C (ix + 1, L', .inl (.long r) :: rest, h') (K r h') Φ) : Sim P d C x (bd T1 K) Φ := S_cl (K := fun y => K y.1 y.2) k ix a dc L st L0 L' rest h hb hc hp hd h1 h2
theorem S_dv (k ix a dc : Nat) {C' : List IE} (L st L0 L' rest : List AV) (h : AH) {T1 : Option (Unit × AH)} {K : Unit → AH → Option (ρ × AH)} (hb : steps C k x = some (ix, L, st, h)) (hc : callX C ix L st = some (a, L0, L', rest)) (hp : P a = C') (hd : dc + 1 ≤ d) (h1 : Sim P dc C' (0, L0, [], h) T1 fV) (h2 : ∀ (r : Unit) (h' : AH), Sim P d C (ix + 1, L', rest, h') (K r h') Φ) : Sim P d C x (bd T1 K) Φ := S_cv (K := fun y => K y.1 y.2) k ix a dc L st L0 L' rest h hb hc hp hd h1 h2
end SB

theorem s_X11_isRow (x0 : Int32) (h : AH) : Sim PP (0) k_X11_isRow (0, [.inl (.int x0)], [], h) (f_X11_isRow x0 h) fI := by
  unfold f_X11_isRow
  refine S_br 2 7 2 [.inl (.int x0)] [] h rfl (fun _ => ?_) (fun _ => ?_)
  · exact S_ri 1 (8, [.inl (.int x0)], [.inl (.int (0 : Int32))], h) rfl rfl
  · refine S_br 3 7 5 [.inl (.int x0)] [] h rfl (fun _ => ?_) (fun _ => ?_)
    · exact S_ri 1 (8, [.inl (.int x0)], [.inl (.int (0 : Int32))], h) rfl rfl
    · exact S_ri 2 (8, [.inl (.int x0)], [.inl (.int (1 : Int32))], h) rfl rfl
theorem sb_J7_fill_53178_cells_5  (rc : Nat → Int32 → Int32 → Int32 → AH → Option (Unit × AH)) (r0 : Nat) (x1 : Int32) (x2 : Int32) (x3 : Int32) (hrc : ∀ (x2 : Int32) (h : AH), Sim PP (0) k_J7_fill_53178 (5, [.inr (3, r0), .inl (.int x1), .inl (.int x2), .inl (.int x3)], [], h) (rc r0 x1 x2 x3 h) (fE PP (0) k_J7_fill_53178 14 (fun v => [av0, av0, av0, av0])))  (h : AH) : Sim PP (0) k_J7_fill_53178 (5, [.inr (3, r0), .inl (.int x1), .inl (.int x2), .inl (.int x3)], [], h) (b_J7_fill_53178_cells_5 rc r0 x1 x2 x3 h) (fE PP (0) k_J7_fill_53178 14 (fun v => [av0, av0, av0, av0])) := by
  unfold b_J7_fill_53178_cells_5
  refine S_br 3 14 8 [.inr (3, r0), .inl (.int x1), .inl (.int x2), .inl (.int x3)] [] h rfl (fun _ => ?_) (fun _ => ?_)
  · exact S_ex () (fun v => [av0, av0, av0, av0]) rfl
  · refine S_grd 4 (12, [.inr (3, r0), .inl (.int x1), .inl (.int x2), .inl (.int x3)], [], (hsI h 3 r0 x2.toNatClampNeg x1)) rfl (fun _ => ?_)
    refine S_blk 2 (5, [.inr (3, r0), .inl (.int x1), .inl (.int (x2 + (1 : Int32))), .inl (.int x3)], [], (hsI h 3 r0 x2.toNatClampNeg x1)) rfl ?_
    refine S_nrm [.inr (3, r0), .inl (.int x1), .inl (.int (x2 + (1 : Int32))), .inl (.int x3)] rfl ?_
    exact hrc (x2 + (1 : Int32)) (hsI h 3 r0 x2.toNatClampNeg x1)
theorem sl_J7_fill_53178_cells_5    (r0 : Nat) (x1 : Int32) (x3 : Int32) : ∀ (F : Nat) (x2 : Int32) (h : AH), Sim PP (0) k_J7_fill_53178 (5, [.inr (3, r0), .inl (.int x1), .inl (.int x2), .inl (.int x3)], [], h) (l_J7_fill_53178_cells_5 F r0 x1 x2 x3 h) (fE PP (0) k_J7_fill_53178 14 (fun v => [av0, av0, av0, av0])) := by
  intro F
  induction F with
  | zero => intro x2 h; exact S_none
  | succ F ih => intro x2 h; exact sb_J7_fill_53178_cells_5 (l_J7_fill_53178_cells_5 F) r0 x1 x2 x3 ih h
theorem sc_J7_fill_53178_cells_14      (h : AH) : Sim PP (0) k_J7_fill_53178 (14, [av0, av0, av0, av0], [], h) (c_J7_fill_53178_cells_14   h) fV := by
  unfold c_J7_fill_53178_cells_14
  exact S_rv 0 (14, [av0, av0, av0, av0], [], h) rfl rfl
theorem s_J7_fill_53178_cells (r0 : Nat) (x1 : Int32) (h : AH) : Sim PP (0) k_J7_fill_53178 (0, [.inr (3, r0), .inl (.int x1), av0, av0], [], h) (f_J7_fill_53178_cells r0 x1 h) fV := by
  unfold f_J7_fill_53178_cells
  refine S_blk 5 (5, [.inr (3, r0), .inl (.int x1), .inl (.int (0 : Int32)), .inl (.int (nI 40))], [], h) rfl ?_
  refine S_nrm [.inr (3, r0), .inl (.int x1), .inl (.int (0 : Int32)), .inl (.int (nI 40))] rfl ?_
  refine S_lp 14 (fun v => [av0, av0, av0, av0]) (sl_J7_fill_53178_cells_5 r0 x1 (nI 40) FU (0 : Int32) h) (fun v h => ?_)
  exact sc_J7_fill_53178_cells_14 h
theorem s_X5_renew (r0 : Nat) (x1 : Int32) (h : AH) : Sim PP (1) k_X5_renew (0, [.inr (2, r0), .inl (.int x1)], [], h) (f_X5_renew r0 x1 h) fV := by
  unfold f_X5_renew
  refine S_dv 6 6 274 0 [.inr (2, r0), .inl (.int x1)] [.inl (.int (0 : Int32)), .inr (3, r0)] [.inr (3, r0), .inl (.int (0 : Int32)), av0, av0] [.inr (2, r0), .inl (.int x1)] [] (hsI h 2 r0 1 x1) rfl rfl pp_274 (by decide) (s_J7_fill_53178_cells r0 (0 : Int32) (hsI h 2 r0 1 x1)) (fun _ h2 => ?_)
  exact S_rv 0 (7, [.inr (2, r0), .inl (.int x1)], [], h2) rfl rfl
theorem s_X11_refuse (x1 : Int32) (h : AH) : Sim PP (0) k_X11_refuse (0, [.inr (0, 0), .inl (.int x1)], [], h) (f_X11_refuse x1 h) fI := by
  unfold f_X11_refuse
  refine S_br 6 17 6 [.inr (0, 0), .inl (.int x1)] [] (hsI h 0 0 13 x1) rfl (fun _ => ?_) (fun _ => ?_)
  · exact S_ri 1 (18, [.inr (0, 0), .inl (.int x1)], [.inl (.int (-3 : Int32))], (hsI h 0 0 13 x1)) rfl rfl
  · refine S_br 3 17 9 [.inr (0, 0), .inl (.int x1)] [] (hsI h 0 0 13 x1) rfl (fun _ => ?_) (fun _ => ?_)
    · exact S_ri 1 (18, [.inr (0, 0), .inl (.int x1)], [.inl (.int (-3 : Int32))], (hsI h 0 0 13 x1)) rfl rfl
    · refine S_grd 5 (14, [.inr (0, 0), .inl (.int x1)], [.inl (.int ((hsI h 0 0 13 x1).1 33 0 x1.toNatClampNeg)), .inl (.int x1), .inr (33, 0)], (hsI h 0 0 13 x1)) rfl (fun _ => ?_)
      refine S_grd 3 (17, [.inr (0, 0), .inl (.int x1)], [], (hsI (hsI h 0 0 13 x1) 33 0 x1.toNatClampNeg (((hsI h 0 0 13 x1).1 33 0 x1.toNatClampNeg) + (1 : Int32)))) rfl (fun _ => ?_)
      exact S_ri 1 (18, [.inr (0, 0), .inl (.int x1)], [.inl (.int (-3 : Int32))], (hsI (hsI h 0 0 13 x1) 33 0 x1.toNatClampNeg (((hsI h 0 0 13 x1).1 33 0 x1.toNatClampNeg) + (1 : Int32)))) rfl rfl
theorem s_X11_row (x1 : Int32) (x2 : Int32) (h : AH) : Sim PP (2) k_X11_row (0, [.inr (0, 0), .inl (.int x1), .inl (.int x2)], [], h) (f_X11_row x1 x2 h) fI := by
  unfold f_X11_row
  refine S_di 1 1 132 0 [.inr (0, 0), .inl (.int x1), .inl (.int x2)] [.inl (.int x1)] [.inl (.int x1)] [.inr (0, 0), .inl (.int x1), .inl (.int x2)] [] h rfl rfl pp_132 (by decide) (s_X11_isRow x1 h) (fun y1 h2 => ?_)
  refine S_br 1 6 3 [.inr (0, 0), .inl (.int x1), .inl (.int x2)] [] h2 rfl (fun _ => ?_) (fun _ => ?_)
  · exact S_ri 1 (7, [.inr (0, 0), .inl (.int x1), .inl (.int x2)], [.inl (.int (-1 : Int32))], h2) rfl rfl
  · refine S_br 3 8 6 [.inr (0, 0), .inl (.int x1), .inl (.int x2)] [] h2 rfl (fun _ => ?_) (fun _ => ?_)
    · refine S_br 2 14 10 [.inr (0, 0), .inl (.int x1), .inl (.int x2)] [] h2 rfl (fun _ => ?_) (fun _ => ?_)
      · refine S_grd 4 (18, [.inr (0, 0), .inl (.int x1), .inl (.int x2)], [.inr (2, (x1.toNatClampNeg))], h2) rfl (fun _ => ?_)
        refine S_dv 1 19 41 1 [.inr (0, 0), .inl (.int x1), .inl (.int x2)] [.inl (.int x2), .inr (2, (x1.toNatClampNeg))] [.inr (2, (x1.toNatClampNeg)), .inl (.int x2)] [.inr (0, 0), .inl (.int x1), .inl (.int x2)] [] h2 rfl rfl pp_41 (by decide) (s_X5_renew (x1.toNatClampNeg) x2 h2) (fun _ h4 => ?_)
        exact S_ri 1 (21, [.inr (0, 0), .inl (.int x1), .inl (.int x2)], [.inl (.int x2)], h4) rfl rfl
      · refine S_di 2 12 131 0 [.inr (0, 0), .inl (.int x1), .inl (.int x2)] [.inl (.int (5 : Int32)), .inr (0, 0)] [.inr (0, 0), .inl (.int (5 : Int32))] [.inr (0, 0), .inl (.int x1), .inl (.int x2)] [] h2 rfl rfl pp_131 (by decide) (s_X11_refuse (5 : Int32) h2) (fun y5 h6 => ?_)
        exact S_ri 0 (13, [.inr (0, 0), .inl (.int x1), .inl (.int x2)], [.inl (.int y5)], h6) rfl rfl
    · exact S_ri 1 (7, [.inr (0, 0), .inl (.int x1), .inl (.int x2)], [.inl (.int (-1 : Int32))], h2) rfl rfl
theorem s_X12_in (x0 : Int32) (x1 : Int32) (x2 : Int32) (h : AH) : Sim PP (0) k_X12_in (0, [.inl (.int x0), .inl (.int x1), .inl (.int x2)], [], h) (f_X12_in x0 x1 x2 h) fI := by
  unfold f_X12_in
  refine S_br 3 8 3 [.inl (.int x0), .inl (.int x1), .inl (.int x2)] [] h rfl (fun _ => ?_) (fun _ => ?_)
  · exact S_ri 1 (9, [.inl (.int x0), .inl (.int x1), .inl (.int x2)], [.inl (.int (0 : Int32))], h) rfl rfl
  · refine S_br 3 8 6 [.inl (.int x0), .inl (.int x1), .inl (.int x2)] [] h rfl (fun _ => ?_) (fun _ => ?_)
    · exact S_ri 1 (9, [.inl (.int x0), .inl (.int x1), .inl (.int x2)], [.inl (.int (0 : Int32))], h) rfl rfl
    · exact S_ri 2 (9, [.inl (.int x0), .inl (.int x1), .inl (.int x2)], [.inl (.int (1 : Int32))], h) rfl rfl
theorem s_X12_isRow (x0 : Int32) (h : AH) : Sim PP (1) k_X12_isRow (0, [.inl (.int x0)], [], h) (f_X12_isRow x0 h) fI := by
  unfold f_X12_isRow
  refine S_di 3 3 154 0 [.inl (.int x0)] [.inl (.int (5 : Int32)), .inl (.int (0 : Int32)), .inl (.int x0)] [.inl (.int x0), .inl (.int (0 : Int32)), .inl (.int (5 : Int32))] [.inl (.int x0)] [] h rfl rfl pp_154 (by decide) (s_X12_in x0 (0 : Int32) (5 : Int32) h) (fun y1 h2 => ?_)
  exact S_ri 0 (4, [.inl (.int x0)], [.inl (.int y1)], h2) rfl rfl
theorem s_X12_meets (x1 : Int32) (h : AH) : Sim PP (0) k_X12_meets (0, [.inr (34, 0), .inl (.int x1)], [], h) (f_X12_meets x1 h) fI := by
  unfold f_X12_meets
  refine S_grd 8 (8, [.inr (34, 0), .inl (.int x1)], [.inl (.int ((hsI h 34 0 0 x1).1 35 0 x1.toNatClampNeg)), .inl (.int x1), .inr (35, 0)], (hsI h 34 0 0 x1)) rfl (fun _ => ?_)
  refine S_grd 3 (11, [.inr (34, 0), .inl (.int x1)], [], (hsI (hsI h 34 0 0 x1) 35 0 x1.toNatClampNeg (((hsI h 34 0 0 x1).1 35 0 x1.toNatClampNeg) + (1 : Int32)))) rfl (fun _ => ?_)
  exact S_ri 1 (12, [.inr (34, 0), .inl (.int x1)], [.inl (.int (-3 : Int32))], (hsI (hsI h 34 0 0 x1) 35 0 x1.toNatClampNeg (((hsI h 34 0 0 x1).1 35 0 x1.toNatClampNeg) + (1 : Int32)))) rfl rfl
theorem sb_X12_row_21  (rc : Int32 → Int32 → Int32 → AH → Option (Unit × AH)) (x1 : Int32) (x2 : Int32) (x3 : Int32) (hrc : ∀ (x3 : Int32) (h : AH), Sim PP (2) k_X12_row (21, [.inr (34, 0), .inl (.int x1), .inl (.int x2), .inl (.int x3)], [], h) (rc x1 x2 x3 h) (fE PP (2) k_X12_row 35 (fun v => [av0, av0, .inl (.int x2), av0])))  (h : AH) : Sim PP (2) k_X12_row (21, [.inr (34, 0), .inl (.int x1), .inl (.int x2), .inl (.int x3)], [], h) (b_X12_row_21 rc x1 x2 x3 h) (fE PP (2) k_X12_row 35 (fun v => [av0, av0, .inl (.int x2), av0])) := by
  unfold b_X12_row_21
  refine S_br 3 35 24 [.inr (34, 0), .inl (.int x1), .inl (.int x2), .inl (.int x3)] [] h rfl (fun _ => ?_) (fun _ => ?_)
  · exact S_ex () (fun v => [av0, av0, .inl (.int x2), av0]) rfl
  · refine S_grd 9 (33, [.inr (34, 0), .inl (.int x1), .inl (.int x2), .inl (.int x3)], [], (hsI h 37 0 (((40 : Int32) * x1) + x3).toNatClampNeg (0 : Int32))) rfl (fun _ => ?_)
    refine S_blk 2 (21, [.inr (34, 0), .inl (.int x1), .inl (.int x2), .inl (.int (x3 + (1 : Int32)))], [], (hsI h 37 0 (((40 : Int32) * x1) + x3).toNatClampNeg (0 : Int32))) rfl ?_
    refine S_nrm [.inr (34, 0), .inl (.int x1), .inl (.int x2), .inl (.int (x3 + (1 : Int32)))] rfl ?_
    exact hrc (x3 + (1 : Int32)) (hsI h 37 0 (((40 : Int32) * x1) + x3).toNatClampNeg (0 : Int32))
theorem sl_X12_row_21    (x1 : Int32) (x2 : Int32) : ∀ (F : Nat) (x3 : Int32) (h : AH), Sim PP (2) k_X12_row (21, [.inr (34, 0), .inl (.int x1), .inl (.int x2), .inl (.int x3)], [], h) (l_X12_row_21 F x1 x2 x3 h) (fE PP (2) k_X12_row 35 (fun v => [av0, av0, .inl (.int x2), av0])) := by
  intro F
  induction F with
  | zero => intro x3 h; exact S_none
  | succ F ih => intro x3 h; exact sb_X12_row_21 (l_X12_row_21 F) x1 x2 x3 ih h
theorem sc_X12_row_35    (x2 : Int32)  (h : AH) : Sim PP (2) k_X12_row (35, [av0, av0, .inl (.int x2), av0], [], h) (c_X12_row_35  x2 h) fI := by
  unfold c_X12_row_35
  exact S_ri 1 (36, [av0, av0, .inl (.int x2), av0], [.inl (.int x2)], h) rfl rfl
theorem s_X12_row (x1 : Int32) (x2 : Int32) (h : AH) : Sim PP (2) k_X12_row (0, [.inr (34, 0), .inl (.int x1), .inl (.int x2), av0], [], h) (f_X12_row x1 x2 h) fI := by
  unfold f_X12_row
  refine S_di 1 1 167 1 [.inr (34, 0), .inl (.int x1), .inl (.int x2), av0] [.inl (.int x1)] [.inl (.int x1)] [.inr (34, 0), .inl (.int x1), .inl (.int x2), av0] [] h rfl rfl pp_167 (by decide) (s_X12_isRow x1 h) (fun y1 h2 => ?_)
  refine S_br 1 6 3 [.inr (34, 0), .inl (.int x1), .inl (.int x2), av0] [] h2 rfl (fun _ => ?_) (fun _ => ?_)
  · exact S_ri 1 (7, [.inr (34, 0), .inl (.int x1), .inl (.int x2), av0], [.inl (.int (-1 : Int32))], h2) rfl rfl
  · refine S_br 3 8 6 [.inr (34, 0), .inl (.int x1), .inl (.int x2), av0] [] h2 rfl (fun _ => ?_) (fun _ => ?_)
    · refine S_br 2 14 10 [.inr (34, 0), .inl (.int x1), .inl (.int x2), av0] [] h2 rfl (fun _ => ?_) (fun _ => ?_)
      · refine S_grd 5 (19, [.inr (34, 0), .inl (.int x1), .inl (.int x2), av0], [], (hsI h2 36 0 x1.toNatClampNeg x2)) rfl (fun _ => ?_)
        refine S_blk 2 (21, [.inr (34, 0), .inl (.int x1), .inl (.int x2), .inl (.int (0 : Int32))], [], (hsI h2 36 0 x1.toNatClampNeg x2)) rfl ?_
        refine S_nrm [.inr (34, 0), .inl (.int x1), .inl (.int x2), .inl (.int (0 : Int32))] rfl ?_
        refine S_lp 35 (fun v => [av0, av0, .inl (.int x2), av0]) (sl_X12_row_21 x1 x2 FU (0 : Int32) (hsI h2 36 0 x1.toNatClampNeg x2)) (fun v h => ?_)
        exact sc_X12_row_35 x2 h
      · refine S_di 2 12 159 0 [.inr (34, 0), .inl (.int x1), .inl (.int x2), av0] [.inl (.int (5 : Int32)), .inr (34, 0)] [.inr (34, 0), .inl (.int (5 : Int32))] [.inr (34, 0), .inl (.int x1), .inl (.int x2), av0] [] h2 rfl rfl pp_159 (by decide) (s_X12_meets (5 : Int32) h2) (fun y3 h4 => ?_)
        exact S_ri 0 (13, [.inr (34, 0), .inl (.int x1), .inl (.int x2), av0], [.inl (.int y3)], h4) rfl rfl
    · exact S_ri 1 (7, [.inr (34, 0), .inl (.int x1), .inl (.int x2), av0], [.inl (.int (-1 : Int32))], h2) rfl rfl
theorem s_X5_isMissing (r0 : Nat) (h : AH) : Sim PP (0) k_X5_isMissing (0, [.inr (2, r0)], [], h) (f_X5_isMissing r0 h) fI := by
  unfold f_X5_isMissing
  refine S_br 4 4 6 [.inr (2, r0)] [] h rfl (fun _ => ?_) (fun _ => ?_)
  · exact S_ri 2 (7, [.inr (2, r0)], [.inl (.int (1 : Int32))], h) rfl rfl
  · exact S_ri 1 (7, [.inr (2, r0)], [.inl (.int (0 : Int32))], h) rfl rfl
theorem s_X5_spans (r0 : Nat) (x1 : Int32) (x2 : Int32) (h : AH) : Sim PP (0) k_X5_spans (0, [.inr (2, r0), .inl (.int x1), .inl (.int x2)], [], h) (f_X5_spans r0 x1 x2 h) fI := by
  unfold f_X5_spans
  refine S_br 2 14 2 [.inr (2, r0), .inl (.int x1), .inl (.int x2)] [] h rfl (fun _ => ?_) (fun _ => ?_)
  · exact S_ri 1 (15, [.inr (2, r0), .inl (.int x1), .inl (.int x2)], [.inl (.int (0 : Int32))], h) rfl rfl
  · refine S_br 4 14 6 [.inr (2, r0), .inl (.int x1), .inl (.int x2)] [] h rfl (fun _ => ?_) (fun _ => ?_)
    · exact S_ri 1 (15, [.inr (2, r0), .inl (.int x1), .inl (.int x2)], [.inl (.int (0 : Int32))], h) rfl rfl
    · refine S_br 6 14 12 [.inr (2, r0), .inl (.int x1), .inl (.int x2)] [] h rfl (fun _ => ?_) (fun _ => ?_)
      · exact S_ri 1 (15, [.inr (2, r0), .inl (.int x1), .inl (.int x2)], [.inl (.int (0 : Int32))], h) rfl rfl
      · exact S_ri 2 (15, [.inr (2, r0), .inl (.int x1), .inl (.int x2)], [.inl (.int (1 : Int32))], h) rfl rfl
theorem s_X11_lay (x1 : Int32) (x2 : Int32) (x3 : Int32) (h : AH) : Sim PP (1) k_X11_lay (0, [.inr (0, 0), .inl (.int x1), .inl (.int x2), .inl (.int x3), av0], [], h) (f_X11_lay x1 x2 x3 h) fI := by
  unfold f_X11_lay
  refine S_di 1 1 132 0 [.inr (0, 0), .inl (.int x1), .inl (.int x2), .inl (.int x3), av0] [.inl (.int x1)] [.inl (.int x1)] [.inr (0, 0), .inl (.int x1), .inl (.int x2), .inl (.int x3), av0] [] h rfl rfl pp_132 (by decide) (s_X11_isRow x1 h) (fun y1 h2 => ?_)
  refine S_br 1 3 5 [.inr (0, 0), .inl (.int x1), .inl (.int x2), .inl (.int x3), av0] [] h2 rfl (fun _ => ?_) (fun _ => ?_)
  · exact S_ri 1 (4, [.inr (0, 0), .inl (.int x1), .inl (.int x2), .inl (.int x3), av0], [.inl (.int (-1 : Int32))], h2) rfl rfl
  · refine S_grd 4 (9, [.inr (0, 0), .inl (.int x1), .inl (.int x2), .inl (.int x3), av0], [.inr (2, (x1.toNatClampNeg))], h2) rfl (fun _ => ?_)
    refine S_di 2 11 40 0 [.inr (0, 0), .inl (.int x1), .inl (.int x2), .inl (.int x3), .inr (2, (x1.toNatClampNeg))] [.inr (2, (x1.toNatClampNeg))] [.inr (2, (x1.toNatClampNeg))] [.inr (0, 0), .inl (.int x1), .inl (.int x2), .inl (.int x3), .inr (2, (x1.toNatClampNeg))] [] h2 rfl rfl pp_40 (by decide) (s_X5_isMissing (x1.toNatClampNeg) h2) (fun y3 h4 => ?_)
    refine S_br 1 17 13 [.inr (0, 0), .inl (.int x1), .inl (.int x2), .inl (.int x3), .inr (2, (x1.toNatClampNeg))] [] h4 rfl (fun _ => ?_) (fun _ => ?_)
    · refine S_di 3 20 43 0 [.inr (0, 0), .inl (.int x1), .inl (.int x2), .inl (.int x3), .inr (2, (x1.toNatClampNeg))] [.inl (.int (1 : Int32)), .inl (.int x2), .inr (2, (x1.toNatClampNeg))] [.inr (2, (x1.toNatClampNeg)), .inl (.int x2), .inl (.int (1 : Int32))] [.inr (0, 0), .inl (.int x1), .inl (.int x2), .inl (.int x3), .inr (2, (x1.toNatClampNeg))] [] h4 rfl rfl pp_43 (by decide) (s_X5_spans (x1.toNatClampNeg) x2 (1 : Int32) h4) (fun y5 h6 => ?_)
      refine S_br 1 22 26 [.inr (0, 0), .inl (.int x1), .inl (.int x2), .inl (.int x3), .inr (2, (x1.toNatClampNeg))] [] h6 rfl (fun _ => ?_) (fun _ => ?_)
      · refine S_di 2 24 131 0 [.inr (0, 0), .inl (.int x1), .inl (.int x2), .inl (.int x3), .inr (2, (x1.toNatClampNeg))] [.inl (.int (2 : Int32)), .inr (0, 0)] [.inr (0, 0), .inl (.int (2 : Int32))] [.inr (0, 0), .inl (.int x1), .inl (.int x2), .inl (.int x3), .inr (2, (x1.toNatClampNeg))] [] h6 rfl rfl pp_131 (by decide) (s_X11_refuse (2 : Int32) h6) (fun y7 h8 => ?_)
        exact S_ri 0 (25, [.inr (0, 0), .inl (.int x1), .inl (.int x2), .inl (.int x3), .inr (2, (x1.toNatClampNeg))], [.inl (.int y7)], h8) rfl rfl
      · refine S_grd 5 (31, [.inr (0, 0), .inl (.int x1), .inl (.int x2), .inl (.int x3), .inr (2, (x1.toNatClampNeg))], [.inl (.int (h6.1 3 (x1.toNatClampNeg) x2.toNatClampNeg)), .inr (0, 0)], h6) rfl (fun _ => ?_)
        refine S_grd 6 (37, [.inr (0, 0), .inl (.int x1), .inl (.int x2), .inl (.int x3), .inr (2, (x1.toNatClampNeg))], [], (hsI (hsI h6 0 0 14 (h6.1 3 (x1.toNatClampNeg) x2.toNatClampNeg)) 3 (x1.toNatClampNeg) x2.toNatClampNeg x3)) rfl (fun _ => ?_)
        exact S_ri 1 (38, [.inr (0, 0), .inl (.int x1), .inl (.int x2), .inl (.int x3), .inr (2, (x1.toNatClampNeg))], [.inl (.int (1 : Int32))], (hsI (hsI h6 0 0 14 (h6.1 3 (x1.toNatClampNeg) x2.toNatClampNeg)) 3 (x1.toNatClampNeg) x2.toNatClampNeg x3)) rfl rfl
    · refine S_di 2 15 131 0 [.inr (0, 0), .inl (.int x1), .inl (.int x2), .inl (.int x3), .inr (2, (x1.toNatClampNeg))] [.inl (.int (1 : Int32)), .inr (0, 0)] [.inr (0, 0), .inl (.int (1 : Int32))] [.inr (0, 0), .inl (.int x1), .inl (.int x2), .inl (.int x3), .inr (2, (x1.toNatClampNeg))] [] h4 rfl rfl pp_131 (by decide) (s_X11_refuse (1 : Int32) h4) (fun y9 h10 => ?_)
      exact S_ri 0 (16, [.inr (0, 0), .inl (.int x1), .inl (.int x2), .inl (.int x3), .inr (2, (x1.toNatClampNeg))], [.inl (.int y9)], h10) rfl rfl
theorem s_X12_rowAt (x1 : Int32) (x2 : Int32) (h : AH) : Sim PP (0) k_X12_rowAt (0, [.inr (34, 0), .inl (.int x1), .inl (.int x2)], [], h) (f_X12_rowAt x1 x2 h) fI := by
  unfold f_X12_rowAt
  refine S_grd 8 (8, [.inr (34, 0), .inl (.int x1), .inl (.int x2)], [.inl (.int (h.1 37 0 (((40 : Int32) * x1) + x2).toNatClampNeg))], h) rfl (fun _ => ?_)
  exact S_ri 0 (8, [.inr (34, 0), .inl (.int x1), .inl (.int x2)], [.inl (.int (h.1 37 0 (((40 : Int32) * x1) + x2).toNatClampNeg))], h) rfl rfl
theorem s_X12_tells (x1 : Int32) (x2 : Int32) (h : AH) : Sim PP (0) k_X12_tells (0, [.inr (34, 0), .inl (.int x1), .inl (.int x2)], [], h) (f_X12_tells x1 x2 h) fI := by
  unfold f_X12_tells
  exact S_ri 4 (4, [.inr (34, 0), .inl (.int x1), .inl (.int x2)], [.inl (.int x2)], (hsI h 34 0 2 x1)) rfl rfl
theorem s_X12_lay (x1 : Int32) (x2 : Int32) (x3 : Int32) (h : AH) : Sim PP (2) k_X12_lay (0, [.inr (34, 0), .inl (.int x1), .inl (.int x2), .inl (.int x3), av0], [], h) (f_X12_lay x1 x2 x3 h) fI := by
  unfold f_X12_lay
  refine S_di 1 1 167 1 [.inr (34, 0), .inl (.int x1), .inl (.int x2), .inl (.int x3), av0] [.inl (.int x1)] [.inl (.int x1)] [.inr (34, 0), .inl (.int x1), .inl (.int x2), .inl (.int x3), av0] [] h rfl rfl pp_167 (by decide) (s_X12_isRow x1 h) (fun y1 h2 => ?_)
  refine S_br 1 3 5 [.inr (34, 0), .inl (.int x1), .inl (.int x2), .inl (.int x3), av0] [] h2 rfl (fun _ => ?_) (fun _ => ?_)
  · exact S_ri 1 (4, [.inr (34, 0), .inl (.int x1), .inl (.int x2), .inl (.int x3), av0], [.inl (.int (-1 : Int32))], h2) rfl rfl
  · refine S_grd 4 (9, [.inr (34, 0), .inl (.int x1), .inl (.int x2), .inl (.int x3), av0], [.inl (.int (h2.1 36 0 x1.toNatClampNeg))], h2) rfl (fun _ => ?_)
    refine S_br 1 14 10 [.inr (34, 0), .inl (.int x1), .inl (.int x2), .inl (.int x3), av0] [] h2 rfl (fun _ => ?_) (fun _ => ?_)
    · refine S_grd 6 (20, [.inr (34, 0), .inl (.int x1), .inl (.int x2), .inl (.int x3), av0], [.inl (.int (h2.1 36 0 x1.toNatClampNeg)), .inl (.int (0 : Int32)), .inl (.int x2)], h2) rfl (fun _ => ?_)
      refine S_di 2 22 154 0 [.inr (34, 0), .inl (.int x1), .inl (.int x2), .inl (.int x3), av0] [.inl (.int ((h2.1 36 0 x1.toNatClampNeg) - (1 : Int32))), .inl (.int (0 : Int32)), .inl (.int x2)] [.inl (.int x2), .inl (.int (0 : Int32)), .inl (.int ((h2.1 36 0 x1.toNatClampNeg) - (1 : Int32)))] [.inr (34, 0), .inl (.int x1), .inl (.int x2), .inl (.int x3), av0] [] h2 rfl rfl pp_154 (by decide) (s_X12_in x2 (0 : Int32) ((h2.1 36 0 x1.toNatClampNeg) - (1 : Int32)) h2) (fun y3 h4 => ?_)
      refine S_br 1 24 28 [.inr (34, 0), .inl (.int x1), .inl (.int x2), .inl (.int x3), av0] [] h4 rfl (fun _ => ?_) (fun _ => ?_)
      · refine S_di 2 26 159 0 [.inr (34, 0), .inl (.int x1), .inl (.int x2), .inl (.int x3), av0] [.inl (.int (2 : Int32)), .inr (34, 0)] [.inr (34, 0), .inl (.int (2 : Int32))] [.inr (34, 0), .inl (.int x1), .inl (.int x2), .inl (.int x3), av0] [] h4 rfl rfl pp_159 (by decide) (s_X12_meets (2 : Int32) h4) (fun y5 h6 => ?_)
        exact S_ri 0 (27, [.inr (34, 0), .inl (.int x1), .inl (.int x2), .inl (.int x3), av0], [.inl (.int y5)], h6) rfl rfl
      · refine S_di 3 31 168 0 [.inr (34, 0), .inl (.int x1), .inl (.int x2), .inl (.int x3), av0] [.inl (.int x2), .inl (.int x1), .inr (34, 0)] [.inr (34, 0), .inl (.int x1), .inl (.int x2)] [.inr (34, 0), .inl (.int x1), .inl (.int x2), .inl (.int x3), av0] [] h4 rfl rfl pp_168 (by decide) (s_X12_rowAt x1 x2 h4) (fun y7 h8 => ?_)
        refine S_grd 10 (42, [.inr (34, 0), .inl (.int x1), .inl (.int x2), .inl (.int x3), .inl (.int y7)], [], (hsI h8 37 0 (((40 : Int32) * x1) + x2).toNatClampNeg x3)) rfl (fun _ => ?_)
        refine S_di 3 45 162 0 [.inr (34, 0), .inl (.int x1), .inl (.int x2), .inl (.int x3), .inl (.int y7)] [.inl (.int (1 : Int32)), .inl (.int y7), .inr (34, 0)] [.inr (34, 0), .inl (.int y7), .inl (.int (1 : Int32))] [.inr (34, 0), .inl (.int x1), .inl (.int x2), .inl (.int x3), .inl (.int y7)] [] (hsI h8 37 0 (((40 : Int32) * x1) + x2).toNatClampNeg x3) rfl rfl pp_162 (by decide) (s_X12_tells y7 (1 : Int32) (hsI h8 37 0 (((40 : Int32) * x1) + x2).toNatClampNeg x3)) (fun y9 h10 => ?_)
        exact S_ri 0 (46, [.inr (34, 0), .inl (.int x1), .inl (.int x2), .inl (.int x3), .inl (.int y7)], [.inl (.int y9)], h10) rfl rfl
    · refine S_di 2 12 159 0 [.inr (34, 0), .inl (.int x1), .inl (.int x2), .inl (.int x3), av0] [.inl (.int (1 : Int32)), .inr (34, 0)] [.inr (34, 0), .inl (.int (1 : Int32))] [.inr (34, 0), .inl (.int x1), .inl (.int x2), .inl (.int x3), av0] [] h2 rfl rfl pp_159 (by decide) (s_X12_meets (1 : Int32) h2) (fun y11 h12 => ?_)
      exact S_ri 0 (13, [.inr (34, 0), .inl (.int x1), .inl (.int x2), .inl (.int x3), av0], [.inl (.int y11)], h12) rfl rfl
theorem s_X11_at (x1 : Int32) (x2 : Int32) (h : AH) : Sim PP (1) k_X11_at (0, [.inr (0, 0), .inl (.int x1), .inl (.int x2), av0], [], h) (f_X11_at x1 x2 h) fI := by
  unfold f_X11_at
  refine S_di 1 1 132 0 [.inr (0, 0), .inl (.int x1), .inl (.int x2), av0] [.inl (.int x1)] [.inl (.int x1)] [.inr (0, 0), .inl (.int x1), .inl (.int x2), av0] [] h rfl rfl pp_132 (by decide) (s_X11_isRow x1 h) (fun y1 h2 => ?_)
  refine S_br 1 3 5 [.inr (0, 0), .inl (.int x1), .inl (.int x2), av0] [] h2 rfl (fun _ => ?_) (fun _ => ?_)
  · exact S_ri 1 (4, [.inr (0, 0), .inl (.int x1), .inl (.int x2), av0], [.inl (.int (-1 : Int32))], h2) rfl rfl
  · refine S_grd 4 (9, [.inr (0, 0), .inl (.int x1), .inl (.int x2), av0], [.inr (2, (x1.toNatClampNeg))], h2) rfl (fun _ => ?_)
    refine S_di 2 11 40 0 [.inr (0, 0), .inl (.int x1), .inl (.int x2), .inr (2, (x1.toNatClampNeg))] [.inr (2, (x1.toNatClampNeg))] [.inr (2, (x1.toNatClampNeg))] [.inr (0, 0), .inl (.int x1), .inl (.int x2), .inr (2, (x1.toNatClampNeg))] [] h2 rfl rfl pp_40 (by decide) (s_X5_isMissing (x1.toNatClampNeg) h2) (fun y3 h4 => ?_)
    refine S_br 1 17 13 [.inr (0, 0), .inl (.int x1), .inl (.int x2), .inr (2, (x1.toNatClampNeg))] [] h4 rfl (fun _ => ?_) (fun _ => ?_)
    · refine S_di 3 20 43 0 [.inr (0, 0), .inl (.int x1), .inl (.int x2), .inr (2, (x1.toNatClampNeg))] [.inl (.int (1 : Int32)), .inl (.int x2), .inr (2, (x1.toNatClampNeg))] [.inr (2, (x1.toNatClampNeg)), .inl (.int x2), .inl (.int (1 : Int32))] [.inr (0, 0), .inl (.int x1), .inl (.int x2), .inr (2, (x1.toNatClampNeg))] [] h4 rfl rfl pp_43 (by decide) (s_X5_spans (x1.toNatClampNeg) x2 (1 : Int32) h4) (fun y5 h6 => ?_)
      refine S_br 1 22 26 [.inr (0, 0), .inl (.int x1), .inl (.int x2), .inr (2, (x1.toNatClampNeg))] [] h6 rfl (fun _ => ?_) (fun _ => ?_)
      · refine S_di 2 24 131 0 [.inr (0, 0), .inl (.int x1), .inl (.int x2), .inr (2, (x1.toNatClampNeg))] [.inl (.int (2 : Int32)), .inr (0, 0)] [.inr (0, 0), .inl (.int (2 : Int32))] [.inr (0, 0), .inl (.int x1), .inl (.int x2), .inr (2, (x1.toNatClampNeg))] [] h6 rfl rfl pp_131 (by decide) (s_X11_refuse (2 : Int32) h6) (fun y7 h8 => ?_)
        exact S_ri 0 (25, [.inr (0, 0), .inl (.int x1), .inl (.int x2), .inr (2, (x1.toNatClampNeg))], [.inl (.int y7)], h8) rfl rfl
      · refine S_grd 5 (31, [.inr (0, 0), .inl (.int x1), .inl (.int x2), .inr (2, (x1.toNatClampNeg))], [.inl (.int (h6.1 3 (x1.toNatClampNeg) x2.toNatClampNeg)), .inr (0, 0)], h6) rfl (fun _ => ?_)
        exact S_ri 2 (33, [.inr (0, 0), .inl (.int x1), .inl (.int x2), .inr (2, (x1.toNatClampNeg))], [.inl (.int (1 : Int32))], (hsI h6 0 0 14 (h6.1 3 (x1.toNatClampNeg) x2.toNatClampNeg))) rfl rfl
    · refine S_di 2 15 131 0 [.inr (0, 0), .inl (.int x1), .inl (.int x2), .inr (2, (x1.toNatClampNeg))] [.inl (.int (1 : Int32)), .inr (0, 0)] [.inr (0, 0), .inl (.int (1 : Int32))] [.inr (0, 0), .inl (.int x1), .inl (.int x2), .inr (2, (x1.toNatClampNeg))] [] h4 rfl rfl pp_131 (by decide) (s_X11_refuse (1 : Int32) h4) (fun y9 h10 => ?_)
      exact S_ri 0 (16, [.inr (0, 0), .inl (.int x1), .inl (.int x2), .inr (2, (x1.toNatClampNeg))], [.inl (.int y9)], h10) rfl rfl
theorem s_X12_at (x1 : Int32) (x2 : Int32) (h : AH) : Sim PP (2) k_X12_at (0, [.inr (34, 0), .inl (.int x1), .inl (.int x2)], [], h) (f_X12_at x1 x2 h) fI := by
  unfold f_X12_at
  refine S_di 1 1 167 1 [.inr (34, 0), .inl (.int x1), .inl (.int x2)] [.inl (.int x1)] [.inl (.int x1)] [.inr (34, 0), .inl (.int x1), .inl (.int x2)] [] h rfl rfl pp_167 (by decide) (s_X12_isRow x1 h) (fun y1 h2 => ?_)
  refine S_br 1 3 5 [.inr (34, 0), .inl (.int x1), .inl (.int x2)] [] h2 rfl (fun _ => ?_) (fun _ => ?_)
  · exact S_ri 1 (4, [.inr (34, 0), .inl (.int x1), .inl (.int x2)], [.inl (.int (-1 : Int32))], h2) rfl rfl
  · refine S_grd 4 (9, [.inr (34, 0), .inl (.int x1), .inl (.int x2)], [.inl (.int (h2.1 36 0 x1.toNatClampNeg))], h2) rfl (fun _ => ?_)
    refine S_br 1 14 10 [.inr (34, 0), .inl (.int x1), .inl (.int x2)] [] h2 rfl (fun _ => ?_) (fun _ => ?_)
    · refine S_grd 6 (20, [.inr (34, 0), .inl (.int x1), .inl (.int x2)], [.inl (.int (h2.1 36 0 x1.toNatClampNeg)), .inl (.int (0 : Int32)), .inl (.int x2)], h2) rfl (fun _ => ?_)
      refine S_di 2 22 154 0 [.inr (34, 0), .inl (.int x1), .inl (.int x2)] [.inl (.int ((h2.1 36 0 x1.toNatClampNeg) - (1 : Int32))), .inl (.int (0 : Int32)), .inl (.int x2)] [.inl (.int x2), .inl (.int (0 : Int32)), .inl (.int ((h2.1 36 0 x1.toNatClampNeg) - (1 : Int32)))] [.inr (34, 0), .inl (.int x1), .inl (.int x2)] [] h2 rfl rfl pp_154 (by decide) (s_X12_in x2 (0 : Int32) ((h2.1 36 0 x1.toNatClampNeg) - (1 : Int32)) h2) (fun y3 h4 => ?_)
      refine S_br 1 32 24 [.inr (34, 0), .inl (.int x1), .inl (.int x2)] [] h4 rfl (fun _ => ?_) (fun _ => ?_)
      · refine S_di 2 34 159 0 [.inr (34, 0), .inl (.int x1), .inl (.int x2)] [.inl (.int (2 : Int32)), .inr (34, 0)] [.inr (34, 0), .inl (.int (2 : Int32))] [.inr (34, 0), .inl (.int x1), .inl (.int x2)] [] h4 rfl rfl pp_159 (by decide) (s_X12_meets (2 : Int32) h4) (fun y5 h6 => ?_)
        exact S_ri 0 (35, [.inr (34, 0), .inl (.int x1), .inl (.int x2)], [.inl (.int y5)], h6) rfl rfl
      · refine S_di 4 28 168 0 [.inr (34, 0), .inl (.int x1), .inl (.int x2)] [.inl (.int x2), .inl (.int x1), .inr (34, 0), .inr (34, 0)] [.inr (34, 0), .inl (.int x1), .inl (.int x2)] [.inr (34, 0), .inl (.int x1), .inl (.int x2)] [.inr (34, 0)] h4 rfl rfl pp_168 (by decide) (s_X12_rowAt x1 x2 h4) (fun y7 h8 => ?_)
        refine S_di 1 30 162 0 [.inr (34, 0), .inl (.int x1), .inl (.int x2)] [.inl (.int (1 : Int32)), .inl (.int y7), .inr (34, 0)] [.inr (34, 0), .inl (.int y7), .inl (.int (1 : Int32))] [.inr (34, 0), .inl (.int x1), .inl (.int x2)] [] h8 rfl rfl pp_162 (by decide) (s_X12_tells y7 (1 : Int32) h8) (fun y9 h10 => ?_)
        exact S_ri 1 (35, [.inr (34, 0), .inl (.int x1), .inl (.int x2)], [.inl (.int y9)], h10) rfl rfl
    · refine S_di 2 12 159 0 [.inr (34, 0), .inl (.int x1), .inl (.int x2)] [.inl (.int (1 : Int32)), .inr (34, 0)] [.inr (34, 0), .inl (.int (1 : Int32))] [.inr (34, 0), .inl (.int x1), .inl (.int x2)] [] h2 rfl rfl pp_159 (by decide) (s_X12_meets (1 : Int32) h2) (fun y11 h12 => ?_)
      exact S_ri 0 (13, [.inr (34, 0), .inl (.int x1), .inl (.int x2)], [.inl (.int y11)], h12) rfl rfl
theorem s_X11_tear (x1 : Int32) (h : AH) : Sim PP (1) k_X11_tear (0, [.inr (0, 0), .inl (.int x1)], [], h) (f_X11_tear x1 h) fI := by
  unfold f_X11_tear
  refine S_di 1 1 132 0 [.inr (0, 0), .inl (.int x1)] [.inl (.int x1)] [.inl (.int x1)] [.inr (0, 0), .inl (.int x1)] [] h rfl rfl pp_132 (by decide) (s_X11_isRow x1 h) (fun y1 h2 => ?_)
  refine S_br 1 3 5 [.inr (0, 0), .inl (.int x1)] [] h2 rfl (fun _ => ?_) (fun _ => ?_)
  · exact S_ri 1 (4, [.inr (0, 0), .inl (.int x1)], [.inl (.int (-1 : Int32))], h2) rfl rfl
  · refine S_grd 4 (9, [.inr (0, 0), .inl (.int x1)], [.inr (2, (x1.toNatClampNeg))], h2) rfl (fun _ => ?_)
    refine S_di 0 9 40 0 [.inr (0, 0), .inl (.int x1)] [.inr (2, (x1.toNatClampNeg))] [.inr (2, (x1.toNatClampNeg))] [.inr (0, 0), .inl (.int x1)] [] h2 rfl rfl pp_40 (by decide) (s_X5_isMissing (x1.toNatClampNeg) h2) (fun y3 h4 => ?_)
    refine S_br 1 15 11 [.inr (0, 0), .inl (.int x1)] [] h4 rfl (fun _ => ?_) (fun _ => ?_)
    · refine S_grd 4 (19, [.inr (0, 0), .inl (.int x1)], [.inr (2, (x1.toNatClampNeg))], h4) rfl (fun _ => ?_)
      exact S_ri 3 (22, [.inr (0, 0), .inl (.int x1)], [.inl (.int (1 : Int32))], (hsI h4 2 (x1.toNatClampNeg) 1 (-1 : Int32))) rfl rfl
    · refine S_di 2 13 131 0 [.inr (0, 0), .inl (.int x1)] [.inl (.int (1 : Int32)), .inr (0, 0)] [.inr (0, 0), .inl (.int (1 : Int32))] [.inr (0, 0), .inl (.int x1)] [] h4 rfl rfl pp_131 (by decide) (s_X11_refuse (1 : Int32) h4) (fun y5 h6 => ?_)
      exact S_ri 0 (14, [.inr (0, 0), .inl (.int x1)], [.inl (.int y5)], h6) rfl rfl
theorem s_X12_tear (x1 : Int32) (h : AH) : Sim PP (2) k_X12_tear (0, [.inr (34, 0), .inl (.int x1)], [], h) (f_X12_tear x1 h) fI := by
  unfold f_X12_tear
  refine S_di 1 1 167 1 [.inr (34, 0), .inl (.int x1)] [.inl (.int x1)] [.inl (.int x1)] [.inr (34, 0), .inl (.int x1)] [] h rfl rfl pp_167 (by decide) (s_X12_isRow x1 h) (fun y1 h2 => ?_)
  refine S_br 1 3 5 [.inr (34, 0), .inl (.int x1)] [] h2 rfl (fun _ => ?_) (fun _ => ?_)
  · exact S_ri 1 (4, [.inr (34, 0), .inl (.int x1)], [.inl (.int (-1 : Int32))], h2) rfl rfl
  · refine S_grd 4 (9, [.inr (34, 0), .inl (.int x1)], [.inl (.int (h2.1 36 0 x1.toNatClampNeg))], h2) rfl (fun _ => ?_)
    refine S_br 1 14 10 [.inr (34, 0), .inl (.int x1)] [] h2 rfl (fun _ => ?_) (fun _ => ?_)
    · refine S_grd 5 (19, [.inr (34, 0), .inl (.int x1)], [], (hsI h2 36 0 x1.toNatClampNeg (-1 : Int32))) rfl (fun _ => ?_)
      exact S_ri 1 (20, [.inr (34, 0), .inl (.int x1)], [.inl (.int (1 : Int32))], (hsI h2 36 0 x1.toNatClampNeg (-1 : Int32))) rfl rfl
    · refine S_di 2 12 159 0 [.inr (34, 0), .inl (.int x1)] [.inl (.int (1 : Int32)), .inr (34, 0)] [.inr (34, 0), .inl (.int (1 : Int32))] [.inr (34, 0), .inl (.int x1)] [] h2 rfl rfl pp_159 (by decide) (s_X12_meets (1 : Int32) h2) (fun y3 h4 => ?_)
      exact S_ri 0 (13, [.inr (34, 0), .inl (.int x1)], [.inl (.int y3)], h4) rfl rfl
theorem s_X11_copy (x1 : Int32) (x2 : Int32) (x3 : Int32) (x4 : Int32) (x5 : Int32) (h : AH) : Sim PP (1) k_X11_copy (0, [.inr (0, 0), .inl (.int x1), .inl (.int x2), .inl (.int x3), .inl (.int x4), .inl (.int x5), av0, av0], [], h) (f_X11_copy x1 x2 x3 x4 x5 h) fI := by
  unfold f_X11_copy
  refine S_di 1 1 132 0 [.inr (0, 0), .inl (.int x1), .inl (.int x2), .inl (.int x3), .inl (.int x4), .inl (.int x5), av0, av0] [.inl (.int x1)] [.inl (.int x1)] [.inr (0, 0), .inl (.int x1), .inl (.int x2), .inl (.int x3), .inl (.int x4), .inl (.int x5), av0, av0] [] h rfl rfl pp_132 (by decide) (s_X11_isRow x1 h) (fun y1 h2 => ?_)
  refine S_br 1 6 3 [.inr (0, 0), .inl (.int x1), .inl (.int x2), .inl (.int x3), .inl (.int x4), .inl (.int x5), av0, av0] [] h2 rfl (fun _ => ?_) (fun _ => ?_)
  · exact S_ri 1 (7, [.inr (0, 0), .inl (.int x1), .inl (.int x2), .inl (.int x3), .inl (.int x4), .inl (.int x5), av0, av0], [.inl (.int (-1 : Int32))], h2) rfl rfl
  · refine S_di 1 4 132 0 [.inr (0, 0), .inl (.int x1), .inl (.int x2), .inl (.int x3), .inl (.int x4), .inl (.int x5), av0, av0] [.inl (.int x3)] [.inl (.int x3)] [.inr (0, 0), .inl (.int x1), .inl (.int x2), .inl (.int x3), .inl (.int x4), .inl (.int x5), av0, av0] [] h2 rfl rfl pp_132 (by decide) (s_X11_isRow x3 h2) (fun y3 h4 => ?_)
    refine S_br 1 6 8 [.inr (0, 0), .inl (.int x1), .inl (.int x2), .inl (.int x3), .inl (.int x4), .inl (.int x5), av0, av0] [] h4 rfl (fun _ => ?_) (fun _ => ?_)
    · exact S_ri 1 (7, [.inr (0, 0), .inl (.int x1), .inl (.int x2), .inl (.int x3), .inl (.int x4), .inl (.int x5), av0, av0], [.inl (.int (-1 : Int32))], h4) rfl rfl
    · refine S_br 2 14 10 [.inr (0, 0), .inl (.int x1), .inl (.int x2), .inl (.int x3), .inl (.int x4), .inl (.int x5), av0, av0] [] h4 rfl (fun _ => ?_) (fun _ => ?_)
      · refine S_grd 4 (18, [.inr (0, 0), .inl (.int x1), .inl (.int x2), .inl (.int x3), .inl (.int x4), .inl (.int x5), av0, av0], [.inr (2, (x1.toNatClampNeg))], h4) rfl (fun _ => ?_)
        refine S_grd 5 (23, [.inr (0, 0), .inl (.int x1), .inl (.int x2), .inl (.int x3), .inl (.int x4), .inl (.int x5), .inr (2, (x1.toNatClampNeg)), av0], [.inr (2, (x3.toNatClampNeg))], h4) rfl (fun _ => ?_)
        refine S_di 2 25 40 0 [.inr (0, 0), .inl (.int x1), .inl (.int x2), .inl (.int x3), .inl (.int x4), .inl (.int x5), .inr (2, (x1.toNatClampNeg)), .inr (2, (x3.toNatClampNeg))] [.inr (2, (x1.toNatClampNeg))] [.inr (2, (x1.toNatClampNeg))] [.inr (0, 0), .inl (.int x1), .inl (.int x2), .inl (.int x3), .inl (.int x4), .inl (.int x5), .inr (2, (x1.toNatClampNeg)), .inr (2, (x3.toNatClampNeg))] [] h4 rfl rfl pp_40 (by decide) (s_X5_isMissing (x1.toNatClampNeg) h4) (fun y5 h6 => ?_)
        refine S_br 1 27 30 [.inr (0, 0), .inl (.int x1), .inl (.int x2), .inl (.int x3), .inl (.int x4), .inl (.int x5), .inr (2, (x1.toNatClampNeg)), .inr (2, (x3.toNatClampNeg))] [] h6 rfl (fun _ => ?_) (fun _ => ?_)
        · refine S_di 1 28 40 0 [.inr (0, 0), .inl (.int x1), .inl (.int x2), .inl (.int x3), .inl (.int x4), .inl (.int x5), .inr (2, (x1.toNatClampNeg)), .inr (2, (x3.toNatClampNeg))] [.inr (2, (x3.toNatClampNeg))] [.inr (2, (x3.toNatClampNeg))] [.inr (0, 0), .inl (.int x1), .inl (.int x2), .inl (.int x3), .inl (.int x4), .inl (.int x5), .inr (2, (x1.toNatClampNeg)), .inr (2, (x3.toNatClampNeg))] [] h6 rfl rfl pp_40 (by decide) (s_X5_isMissing (x3.toNatClampNeg) h6) (fun y7 h8 => ?_)
          refine S_br 1 34 30 [.inr (0, 0), .inl (.int x1), .inl (.int x2), .inl (.int x3), .inl (.int x4), .inl (.int x5), .inr (2, (x1.toNatClampNeg)), .inr (2, (x3.toNatClampNeg))] [] h8 rfl (fun _ => ?_) (fun _ => ?_)
          · refine S_di 3 37 43 0 [.inr (0, 0), .inl (.int x1), .inl (.int x2), .inl (.int x3), .inl (.int x4), .inl (.int x5), .inr (2, (x1.toNatClampNeg)), .inr (2, (x3.toNatClampNeg))] [.inl (.int x5), .inl (.int x2), .inr (2, (x1.toNatClampNeg))] [.inr (2, (x1.toNatClampNeg)), .inl (.int x2), .inl (.int x5)] [.inr (0, 0), .inl (.int x1), .inl (.int x2), .inl (.int x3), .inl (.int x4), .inl (.int x5), .inr (2, (x1.toNatClampNeg)), .inr (2, (x3.toNatClampNeg))] [] h8 rfl rfl pp_43 (by decide) (s_X5_spans (x1.toNatClampNeg) x2 x5 h8) (fun y9 h10 => ?_)
            refine S_br 1 44 39 [.inr (0, 0), .inl (.int x1), .inl (.int x2), .inl (.int x3), .inl (.int x4), .inl (.int x5), .inr (2, (x1.toNatClampNeg)), .inr (2, (x3.toNatClampNeg))] [] h10 rfl (fun _ => ?_) (fun _ => ?_)
            · refine S_di 2 46 131 0 [.inr (0, 0), .inl (.int x1), .inl (.int x2), .inl (.int x3), .inl (.int x4), .inl (.int x5), .inr (2, (x1.toNatClampNeg)), .inr (2, (x3.toNatClampNeg))] [.inl (.int (2 : Int32)), .inr (0, 0)] [.inr (0, 0), .inl (.int (2 : Int32))] [.inr (0, 0), .inl (.int x1), .inl (.int x2), .inl (.int x3), .inl (.int x4), .inl (.int x5), .inr (2, (x1.toNatClampNeg)), .inr (2, (x3.toNatClampNeg))] [] h10 rfl rfl pp_131 (by decide) (s_X11_refuse (2 : Int32) h10) (fun y11 h12 => ?_)
              exact S_ri 0 (47, [.inr (0, 0), .inl (.int x1), .inl (.int x2), .inl (.int x3), .inl (.int x4), .inl (.int x5), .inr (2, (x1.toNatClampNeg)), .inr (2, (x3.toNatClampNeg))], [.inl (.int y11)], h12) rfl rfl
            · refine S_di 3 42 43 0 [.inr (0, 0), .inl (.int x1), .inl (.int x2), .inl (.int x3), .inl (.int x4), .inl (.int x5), .inr (2, (x1.toNatClampNeg)), .inr (2, (x3.toNatClampNeg))] [.inl (.int x5), .inl (.int x4), .inr (2, (x3.toNatClampNeg))] [.inr (2, (x3.toNatClampNeg)), .inl (.int x4), .inl (.int x5)] [.inr (0, 0), .inl (.int x1), .inl (.int x2), .inl (.int x3), .inl (.int x4), .inl (.int x5), .inr (2, (x1.toNatClampNeg)), .inr (2, (x3.toNatClampNeg))] [] h10 rfl rfl pp_43 (by decide) (s_X5_spans (x3.toNatClampNeg) x4 x5 h10) (fun y13 h14 => ?_)
              refine S_br 1 44 48 [.inr (0, 0), .inl (.int x1), .inl (.int x2), .inl (.int x3), .inl (.int x4), .inl (.int x5), .inr (2, (x1.toNatClampNeg)), .inr (2, (x3.toNatClampNeg))] [] h14 rfl (fun _ => ?_) (fun _ => ?_)
              · refine S_di 2 46 131 0 [.inr (0, 0), .inl (.int x1), .inl (.int x2), .inl (.int x3), .inl (.int x4), .inl (.int x5), .inr (2, (x1.toNatClampNeg)), .inr (2, (x3.toNatClampNeg))] [.inl (.int (2 : Int32)), .inr (0, 0)] [.inr (0, 0), .inl (.int (2 : Int32))] [.inr (0, 0), .inl (.int x1), .inl (.int x2), .inl (.int x3), .inl (.int x4), .inl (.int x5), .inr (2, (x1.toNatClampNeg)), .inr (2, (x3.toNatClampNeg))] [] h14 rfl rfl pp_131 (by decide) (s_X11_refuse (2 : Int32) h14) (fun y15 h16 => ?_)
                exact S_ri 0 (47, [.inr (0, 0), .inl (.int x1), .inl (.int x2), .inl (.int x3), .inl (.int x4), .inl (.int x5), .inr (2, (x1.toNatClampNeg)), .inr (2, (x3.toNatClampNeg))], [.inl (.int y15)], h16) rfl rfl
              · refine S_grd 8 (56, [.inr (0, 0), .inl (.int x1), .inl (.int x2), .inl (.int x3), .inl (.int x4), .inl (.int x5), .inr (2, (x1.toNatClampNeg)), .inr (2, (x3.toNatClampNeg))], [], (hcp h14 3 (x1.toNatClampNeg) 3 (x3.toNatClampNeg) x2.toNatClampNeg x4.toNatClampNeg x5.toNatClampNeg)) rfl (fun _ => ?_)
                exact S_ri 1 (57, [.inr (0, 0), .inl (.int x1), .inl (.int x2), .inl (.int x3), .inl (.int x4), .inl (.int x5), .inr (2, (x1.toNatClampNeg)), .inr (2, (x3.toNatClampNeg))], [.inl (.int (1 : Int32))], (hcp h14 3 (x1.toNatClampNeg) 3 (x3.toNatClampNeg) x2.toNatClampNeg x4.toNatClampNeg x5.toNatClampNeg)) rfl rfl
          · refine S_di 2 32 131 0 [.inr (0, 0), .inl (.int x1), .inl (.int x2), .inl (.int x3), .inl (.int x4), .inl (.int x5), .inr (2, (x1.toNatClampNeg)), .inr (2, (x3.toNatClampNeg))] [.inl (.int (1 : Int32)), .inr (0, 0)] [.inr (0, 0), .inl (.int (1 : Int32))] [.inr (0, 0), .inl (.int x1), .inl (.int x2), .inl (.int x3), .inl (.int x4), .inl (.int x5), .inr (2, (x1.toNatClampNeg)), .inr (2, (x3.toNatClampNeg))] [] h8 rfl rfl pp_131 (by decide) (s_X11_refuse (1 : Int32) h8) (fun y17 h18 => ?_)
            exact S_ri 0 (33, [.inr (0, 0), .inl (.int x1), .inl (.int x2), .inl (.int x3), .inl (.int x4), .inl (.int x5), .inr (2, (x1.toNatClampNeg)), .inr (2, (x3.toNatClampNeg))], [.inl (.int y17)], h18) rfl rfl
        · refine S_di 2 32 131 0 [.inr (0, 0), .inl (.int x1), .inl (.int x2), .inl (.int x3), .inl (.int x4), .inl (.int x5), .inr (2, (x1.toNatClampNeg)), .inr (2, (x3.toNatClampNeg))] [.inl (.int (1 : Int32)), .inr (0, 0)] [.inr (0, 0), .inl (.int (1 : Int32))] [.inr (0, 0), .inl (.int x1), .inl (.int x2), .inl (.int x3), .inl (.int x4), .inl (.int x5), .inr (2, (x1.toNatClampNeg)), .inr (2, (x3.toNatClampNeg))] [] h6 rfl rfl pp_131 (by decide) (s_X11_refuse (1 : Int32) h6) (fun y19 h20 => ?_)
          exact S_ri 0 (33, [.inr (0, 0), .inl (.int x1), .inl (.int x2), .inl (.int x3), .inl (.int x4), .inl (.int x5), .inr (2, (x1.toNatClampNeg)), .inr (2, (x3.toNatClampNeg))], [.inl (.int y19)], h20) rfl rfl
      · refine S_di 2 12 131 0 [.inr (0, 0), .inl (.int x1), .inl (.int x2), .inl (.int x3), .inl (.int x4), .inl (.int x5), av0, av0] [.inl (.int (5 : Int32)), .inr (0, 0)] [.inr (0, 0), .inl (.int (5 : Int32))] [.inr (0, 0), .inl (.int x1), .inl (.int x2), .inl (.int x3), .inl (.int x4), .inl (.int x5), av0, av0] [] h4 rfl rfl pp_131 (by decide) (s_X11_refuse (5 : Int32) h4) (fun y21 h22 => ?_)
        exact S_ri 0 (13, [.inr (0, 0), .inl (.int x1), .inl (.int x2), .inl (.int x3), .inl (.int x4), .inl (.int x5), av0, av0], [.inl (.int y21)], h22) rfl rfl
theorem sb_X12_copy_62  (rc : Int32 → Int32 → Int32 → Int32 → Int32 → Int32 → AH → Option (Unit × AH)) (x1 : Int32) (x2 : Int32) (x3 : Int32) (x4 : Int32) (x5 : Int32) (x6 : Int32) (hrc : ∀ (x6 : Int32) (h : AH), Sim PP (2) k_X12_copy (62, [.inr (34, 0), .inl (.int x1), .inl (.int x2), .inl (.int x3), .inl (.int x4), .inl (.int x5), .inl (.int x6)], [], h) (rc x1 x2 x3 x4 x5 x6 h) (fE PP (2) k_X12_copy 77 (fun v => [.inr (34, 0), av0, av0, .inl (.int x3), .inl (.int x4), .inl (.int x5), av0])))  (h : AH) : Sim PP (2) k_X12_copy (62, [.inr (34, 0), .inl (.int x1), .inl (.int x2), .inl (.int x3), .inl (.int x4), .inl (.int x5), .inl (.int x6)], [], h) (b_X12_copy_62 rc x1 x2 x3 x4 x5 x6 h) (fE PP (2) k_X12_copy 77 (fun v => [.inr (34, 0), av0, av0, .inl (.int x3), .inl (.int x4), .inl (.int x5), av0])) := by
  unfold b_X12_copy_62
  refine S_br 3 77 65 [.inr (34, 0), .inl (.int x1), .inl (.int x2), .inl (.int x3), .inl (.int x4), .inl (.int x5), .inl (.int x6)] [] h rfl (fun _ => ?_) (fun _ => ?_)
  · exact S_ex () (fun v => [.inr (34, 0), av0, av0, .inl (.int x3), .inl (.int x4), .inl (.int x5), av0]) rfl
  · refine S_di 8 73 168 0 [.inr (34, 0), .inl (.int x1), .inl (.int x2), .inl (.int x3), .inl (.int x4), .inl (.int x5), .inl (.int x6)] [.inl (.int (x2 + x6)), .inl (.int x1), .inr (34, 0), .inl (.int x6), .inr (38, 0)] [.inr (34, 0), .inl (.int x1), .inl (.int (x2 + x6))] [.inr (34, 0), .inl (.int x1), .inl (.int x2), .inl (.int x3), .inl (.int x4), .inl (.int x5), .inl (.int x6)] [.inl (.int x6), .inr (38, 0)] h rfl rfl pp_168 (by decide) (s_X12_rowAt x1 (x2 + x6) h) (fun y1 h2 => ?_)
    refine S_grd 1 (75, [.inr (34, 0), .inl (.int x1), .inl (.int x2), .inl (.int x3), .inl (.int x4), .inl (.int x5), .inl (.int x6)], [], (hsI h2 38 0 x6.toNatClampNeg y1)) rfl (fun _ => ?_)
    refine S_blk 2 (62, [.inr (34, 0), .inl (.int x1), .inl (.int x2), .inl (.int x3), .inl (.int x4), .inl (.int x5), .inl (.int (x6 + (1 : Int32)))], [], (hsI h2 38 0 x6.toNatClampNeg y1)) rfl ?_
    refine S_nrm [.inr (34, 0), .inl (.int x1), .inl (.int x2), .inl (.int x3), .inl (.int x4), .inl (.int x5), .inl (.int (x6 + (1 : Int32)))] rfl ?_
    exact hrc (x6 + (1 : Int32)) (hsI h2 38 0 x6.toNatClampNeg y1)
theorem sl_X12_copy_62    (x1 : Int32) (x2 : Int32) (x3 : Int32) (x4 : Int32) (x5 : Int32) : ∀ (F : Nat) (x6 : Int32) (h : AH), Sim PP (2) k_X12_copy (62, [.inr (34, 0), .inl (.int x1), .inl (.int x2), .inl (.int x3), .inl (.int x4), .inl (.int x5), .inl (.int x6)], [], h) (l_X12_copy_62 F x1 x2 x3 x4 x5 x6 h) (fE PP (2) k_X12_copy 77 (fun v => [.inr (34, 0), av0, av0, .inl (.int x3), .inl (.int x4), .inl (.int x5), av0])) := by
  intro F
  induction F with
  | zero => intro x6 h; exact S_none
  | succ F ih => intro x6 h; exact sb_X12_copy_62 (l_X12_copy_62 F) x1 x2 x3 x4 x5 x6 ih h
theorem sb_X12_copy_79  (rc : Int32 → Int32 → Int32 → Int32 → AH → Option (Unit × AH)) (x3 : Int32) (x4 : Int32) (x5 : Int32) (x6 : Int32) (hrc : ∀ (x6 : Int32) (h : AH), Sim PP (2) k_X12_copy (79, [.inr (34, 0), av0, av0, .inl (.int x3), .inl (.int x4), .inl (.int x5), .inl (.int x6)], [], h) (rc x3 x4 x5 x6 h) (fE PP (2) k_X12_copy 98 (fun v => [av0, av0, av0, av0, av0, av0, av0])))  (h : AH) : Sim PP (2) k_X12_copy (79, [.inr (34, 0), av0, av0, .inl (.int x3), .inl (.int x4), .inl (.int x5), .inl (.int x6)], [], h) (b_X12_copy_79 rc x3 x4 x5 x6 h) (fE PP (2) k_X12_copy 98 (fun v => [av0, av0, av0, av0, av0, av0, av0])) := by
  unfold b_X12_copy_79
  refine S_br 3 98 82 [.inr (34, 0), av0, av0, .inl (.int x3), .inl (.int x4), .inl (.int x5), .inl (.int x6)] [] h rfl (fun _ => ?_) (fun _ => ?_)
  · exact S_ex () (fun v => [av0, av0, av0, av0, av0, av0, av0]) rfl
  · refine S_grd 13 (95, [.inr (34, 0), av0, av0, .inl (.int x3), .inl (.int x4), .inl (.int x5), .inl (.int x6)], [.inl (.int (h.1 38 0 x6.toNatClampNeg)), .inl (.int ((((40 : Int32) * x3) + x4) + x6)), .inr (37, 0)], h) rfl (fun _ => ?_)
    refine S_grd 1 (96, [.inr (34, 0), av0, av0, .inl (.int x3), .inl (.int x4), .inl (.int x5), .inl (.int x6)], [], (hsI h 37 0 ((((40 : Int32) * x3) + x4) + x6).toNatClampNeg (h.1 38 0 x6.toNatClampNeg))) rfl (fun _ => ?_)
    refine S_blk 2 (79, [.inr (34, 0), av0, av0, .inl (.int x3), .inl (.int x4), .inl (.int x5), .inl (.int (x6 + (1 : Int32)))], [], (hsI h 37 0 ((((40 : Int32) * x3) + x4) + x6).toNatClampNeg (h.1 38 0 x6.toNatClampNeg))) rfl ?_
    refine S_nrm [.inr (34, 0), av0, av0, .inl (.int x3), .inl (.int x4), .inl (.int x5), .inl (.int (x6 + (1 : Int32)))] rfl ?_
    exact hrc (x6 + (1 : Int32)) (hsI h 37 0 ((((40 : Int32) * x3) + x4) + x6).toNatClampNeg (h.1 38 0 x6.toNatClampNeg))
theorem sl_X12_copy_79    (x3 : Int32) (x4 : Int32) (x5 : Int32) : ∀ (F : Nat) (x6 : Int32) (h : AH), Sim PP (2) k_X12_copy (79, [.inr (34, 0), av0, av0, .inl (.int x3), .inl (.int x4), .inl (.int x5), .inl (.int x6)], [], h) (l_X12_copy_79 F x3 x4 x5 x6 h) (fE PP (2) k_X12_copy 98 (fun v => [av0, av0, av0, av0, av0, av0, av0])) := by
  intro F
  induction F with
  | zero => intro x6 h; exact S_none
  | succ F ih => intro x6 h; exact sb_X12_copy_79 (l_X12_copy_79 F) x3 x4 x5 x6 ih h
theorem sc_X12_copy_98      (h : AH) : Sim PP (2) k_X12_copy (98, [av0, av0, av0, av0, av0, av0, av0], [], h) (c_X12_copy_98   h) fI := by
  unfold c_X12_copy_98
  exact S_ri 1 (99, [av0, av0, av0, av0, av0, av0, av0], [.inl (.int (1 : Int32))], h) rfl rfl
theorem sc_X12_copy_77    (x3 : Int32) (x4 : Int32) (x5 : Int32)  (h : AH) : Sim PP (2) k_X12_copy (77, [.inr (34, 0), av0, av0, .inl (.int x3), .inl (.int x4), .inl (.int x5), av0], [], h) (c_X12_copy_77  x3 x4 x5 h) fI := by
  unfold c_X12_copy_77
  refine S_blk 2 (79, [.inr (34, 0), av0, av0, .inl (.int x3), .inl (.int x4), .inl (.int x5), .inl (.int (0 : Int32))], [], h) rfl ?_
  refine S_nrm [.inr (34, 0), av0, av0, .inl (.int x3), .inl (.int x4), .inl (.int x5), .inl (.int (0 : Int32))] rfl ?_
  refine S_lp 98 (fun v => [av0, av0, av0, av0, av0, av0, av0]) (sl_X12_copy_79 x3 x4 x5 FU (0 : Int32) h) (fun v h => ?_)
  exact sc_X12_copy_98 h
theorem s_X12_copy (x1 : Int32) (x2 : Int32) (x3 : Int32) (x4 : Int32) (x5 : Int32) (h : AH) : Sim PP (2) k_X12_copy (0, [.inr (34, 0), .inl (.int x1), .inl (.int x2), .inl (.int x3), .inl (.int x4), .inl (.int x5), av0], [], h) (f_X12_copy x1 x2 x3 x4 x5 h) fI := by
  unfold f_X12_copy
  refine S_di 1 1 167 1 [.inr (34, 0), .inl (.int x1), .inl (.int x2), .inl (.int x3), .inl (.int x4), .inl (.int x5), av0] [.inl (.int x1)] [.inl (.int x1)] [.inr (34, 0), .inl (.int x1), .inl (.int x2), .inl (.int x3), .inl (.int x4), .inl (.int x5), av0] [] h rfl rfl pp_167 (by decide) (s_X12_isRow x1 h) (fun y1 h2 => ?_)
  refine S_br 1 6 3 [.inr (34, 0), .inl (.int x1), .inl (.int x2), .inl (.int x3), .inl (.int x4), .inl (.int x5), av0] [] h2 rfl (fun _ => ?_) (fun _ => ?_)
  · exact S_ri 1 (7, [.inr (34, 0), .inl (.int x1), .inl (.int x2), .inl (.int x3), .inl (.int x4), .inl (.int x5), av0], [.inl (.int (-1 : Int32))], h2) rfl rfl
  · refine S_di 1 4 167 1 [.inr (34, 0), .inl (.int x1), .inl (.int x2), .inl (.int x3), .inl (.int x4), .inl (.int x5), av0] [.inl (.int x3)] [.inl (.int x3)] [.inr (34, 0), .inl (.int x1), .inl (.int x2), .inl (.int x3), .inl (.int x4), .inl (.int x5), av0] [] h2 rfl rfl pp_167 (by decide) (s_X12_isRow x3 h2) (fun y3 h4 => ?_)
    refine S_br 1 6 8 [.inr (34, 0), .inl (.int x1), .inl (.int x2), .inl (.int x3), .inl (.int x4), .inl (.int x5), av0] [] h4 rfl (fun _ => ?_) (fun _ => ?_)
    · exact S_ri 1 (7, [.inr (34, 0), .inl (.int x1), .inl (.int x2), .inl (.int x3), .inl (.int x4), .inl (.int x5), av0], [.inl (.int (-1 : Int32))], h4) rfl rfl
    · refine S_br 2 14 10 [.inr (34, 0), .inl (.int x1), .inl (.int x2), .inl (.int x3), .inl (.int x4), .inl (.int x5), av0] [] h4 rfl (fun _ => ?_) (fun _ => ?_)
      · refine S_grd 4 (18, [.inr (34, 0), .inl (.int x1), .inl (.int x2), .inl (.int x3), .inl (.int x4), .inl (.int x5), av0], [.inl (.int (h4.1 36 0 x1.toNatClampNeg))], h4) rfl (fun _ => ?_)
        refine S_br 1 24 19 [.inr (34, 0), .inl (.int x1), .inl (.int x2), .inl (.int x3), .inl (.int x4), .inl (.int x5), av0] [] h4 rfl (fun _ => ?_) (fun _ => ?_)
        · refine S_di 2 26 159 0 [.inr (34, 0), .inl (.int x1), .inl (.int x2), .inl (.int x3), .inl (.int x4), .inl (.int x5), av0] [.inl (.int (1 : Int32)), .inr (34, 0)] [.inr (34, 0), .inl (.int (1 : Int32))] [.inr (34, 0), .inl (.int x1), .inl (.int x2), .inl (.int x3), .inl (.int x4), .inl (.int x5), av0] [] h4 rfl rfl pp_159 (by decide) (s_X12_meets (1 : Int32) h4) (fun y5 h6 => ?_)
          exact S_ri 0 (27, [.inr (34, 0), .inl (.int x1), .inl (.int x2), .inl (.int x3), .inl (.int x4), .inl (.int x5), av0], [.inl (.int y5)], h6) rfl rfl
        · refine S_grd 4 (23, [.inr (34, 0), .inl (.int x1), .inl (.int x2), .inl (.int x3), .inl (.int x4), .inl (.int x5), av0], [.inl (.int (h4.1 36 0 x3.toNatClampNeg))], h4) rfl (fun _ => ?_)
          refine S_br 1 28 24 [.inr (34, 0), .inl (.int x1), .inl (.int x2), .inl (.int x3), .inl (.int x4), .inl (.int x5), av0] [] h4 rfl (fun _ => ?_) (fun _ => ?_)
          · refine S_br 2 56 30 [.inr (34, 0), .inl (.int x1), .inl (.int x2), .inl (.int x3), .inl (.int x4), .inl (.int x5), av0] [] h4 rfl (fun _ => ?_) (fun _ => ?_)
            · refine S_di 2 58 159 0 [.inr (34, 0), .inl (.int x1), .inl (.int x2), .inl (.int x3), .inl (.int x4), .inl (.int x5), av0] [.inl (.int (2 : Int32)), .inr (34, 0)] [.inr (34, 0), .inl (.int (2 : Int32))] [.inr (34, 0), .inl (.int x1), .inl (.int x2), .inl (.int x3), .inl (.int x4), .inl (.int x5), av0] [] h4 rfl rfl pp_159 (by decide) (s_X12_meets (2 : Int32) h4) (fun y7 h8 => ?_)
              exact S_ri 0 (59, [.inr (34, 0), .inl (.int x1), .inl (.int x2), .inl (.int x3), .inl (.int x4), .inl (.int x5), av0], [.inl (.int y7)], h8) rfl rfl
            · refine S_br 2 56 32 [.inr (34, 0), .inl (.int x1), .inl (.int x2), .inl (.int x3), .inl (.int x4), .inl (.int x5), av0] [] h4 rfl (fun _ => ?_) (fun _ => ?_)
              · refine S_di 2 58 159 0 [.inr (34, 0), .inl (.int x1), .inl (.int x2), .inl (.int x3), .inl (.int x4), .inl (.int x5), av0] [.inl (.int (2 : Int32)), .inr (34, 0)] [.inr (34, 0), .inl (.int (2 : Int32))] [.inr (34, 0), .inl (.int x1), .inl (.int x2), .inl (.int x3), .inl (.int x4), .inl (.int x5), av0] [] h4 rfl rfl pp_159 (by decide) (s_X12_meets (2 : Int32) h4) (fun y9 h10 => ?_)
                exact S_ri 0 (59, [.inr (34, 0), .inl (.int x1), .inl (.int x2), .inl (.int x3), .inl (.int x4), .inl (.int x5), av0], [.inl (.int y9)], h10) rfl rfl
              · refine S_grd 9 (41, [.inr (34, 0), .inl (.int x1), .inl (.int x2), .inl (.int x3), .inl (.int x4), .inl (.int x5), av0], [.inl (.int (h4.1 36 0 x1.toNatClampNeg)), .inl (.long (x2.toInt64 + x5.toInt64))], h4) rfl (fun _ => ?_)
                refine S_br 3 56 44 [.inr (34, 0), .inl (.int x1), .inl (.int x2), .inl (.int x3), .inl (.int x4), .inl (.int x5), av0] [] h4 rfl (fun _ => ?_) (fun _ => ?_)
                · refine S_di 2 58 159 0 [.inr (34, 0), .inl (.int x1), .inl (.int x2), .inl (.int x3), .inl (.int x4), .inl (.int x5), av0] [.inl (.int (2 : Int32)), .inr (34, 0)] [.inr (34, 0), .inl (.int (2 : Int32))] [.inr (34, 0), .inl (.int x1), .inl (.int x2), .inl (.int x3), .inl (.int x4), .inl (.int x5), av0] [] h4 rfl rfl pp_159 (by decide) (s_X12_meets (2 : Int32) h4) (fun y11 h12 => ?_)
                  exact S_ri 0 (59, [.inr (34, 0), .inl (.int x1), .inl (.int x2), .inl (.int x3), .inl (.int x4), .inl (.int x5), av0], [.inl (.int y11)], h12) rfl rfl
                · refine S_grd 9 (53, [.inr (34, 0), .inl (.int x1), .inl (.int x2), .inl (.int x3), .inl (.int x4), .inl (.int x5), av0], [.inl (.int (h4.1 36 0 x3.toNatClampNeg)), .inl (.long (x4.toInt64 + x5.toInt64))], h4) rfl (fun _ => ?_)
                  refine S_br 3 60 56 [.inr (34, 0), .inl (.int x1), .inl (.int x2), .inl (.int x3), .inl (.int x4), .inl (.int x5), av0] [] h4 rfl (fun _ => ?_) (fun _ => ?_)
                  · refine S_blk 2 (62, [.inr (34, 0), .inl (.int x1), .inl (.int x2), .inl (.int x3), .inl (.int x4), .inl (.int x5), .inl (.int (0 : Int32))], [], h4) rfl ?_
                    refine S_nrm [.inr (34, 0), .inl (.int x1), .inl (.int x2), .inl (.int x3), .inl (.int x4), .inl (.int x5), .inl (.int (0 : Int32))] rfl ?_
                    refine S_lp 77 (fun v => [.inr (34, 0), av0, av0, .inl (.int x3), .inl (.int x4), .inl (.int x5), av0]) (sl_X12_copy_62 x1 x2 x3 x4 x5 FU (0 : Int32) h4) (fun v h => ?_)
                    exact sc_X12_copy_77 x3 x4 x5 h
                  · refine S_di 2 58 159 0 [.inr (34, 0), .inl (.int x1), .inl (.int x2), .inl (.int x3), .inl (.int x4), .inl (.int x5), av0] [.inl (.int (2 : Int32)), .inr (34, 0)] [.inr (34, 0), .inl (.int (2 : Int32))] [.inr (34, 0), .inl (.int x1), .inl (.int x2), .inl (.int x3), .inl (.int x4), .inl (.int x5), av0] [] h4 rfl rfl pp_159 (by decide) (s_X12_meets (2 : Int32) h4) (fun y13 h14 => ?_)
                    exact S_ri 0 (59, [.inr (34, 0), .inl (.int x1), .inl (.int x2), .inl (.int x3), .inl (.int x4), .inl (.int x5), av0], [.inl (.int y13)], h14) rfl rfl
          · refine S_di 2 26 159 0 [.inr (34, 0), .inl (.int x1), .inl (.int x2), .inl (.int x3), .inl (.int x4), .inl (.int x5), av0] [.inl (.int (1 : Int32)), .inr (34, 0)] [.inr (34, 0), .inl (.int (1 : Int32))] [.inr (34, 0), .inl (.int x1), .inl (.int x2), .inl (.int x3), .inl (.int x4), .inl (.int x5), av0] [] h4 rfl rfl pp_159 (by decide) (s_X12_meets (1 : Int32) h4) (fun y15 h16 => ?_)
            exact S_ri 0 (27, [.inr (34, 0), .inl (.int x1), .inl (.int x2), .inl (.int x3), .inl (.int x4), .inl (.int x5), av0], [.inl (.int y15)], h16) rfl rfl
      · refine S_di 2 12 159 0 [.inr (34, 0), .inl (.int x1), .inl (.int x2), .inl (.int x3), .inl (.int x4), .inl (.int x5), av0] [.inl (.int (5 : Int32)), .inr (34, 0)] [.inr (34, 0), .inl (.int (5 : Int32))] [.inr (34, 0), .inl (.int x1), .inl (.int x2), .inl (.int x3), .inl (.int x4), .inl (.int x5), av0] [] h4 rfl rfl pp_159 (by decide) (s_X12_meets (5 : Int32) h4) (fun y17 h18 => ?_)
        exact S_ri 0 (13, [.inr (34, 0), .inl (.int x1), .inl (.int x2), .inl (.int x3), .inl (.int x4), .inl (.int x5), av0], [.inl (.int y17)], h18) rfl rfl
theorem sb_X5_sum_4  (rc : Nat → Int64 → Int32 → AH → Option (Int64 × AH)) (r0 : Nat) (x1 : Int64) (x3 : Int32) (hrc : ∀ (x1 : Int64) (x3 : Int32) (h : AH), Sim PP (0) k_X5_sum (4, [.inr (2, r0), .inl (.long x1), av0, .inl (.int x3)], [], h) (rc r0 x1 x3 h) (fE PP (0) k_X5_sum 18 (fun v => [av0, .inl (.long v), av0, av0])))  (h : AH) : Sim PP (0) k_X5_sum (4, [.inr (2, r0), .inl (.long x1), av0, .inl (.int x3)], [], h) (b_X5_sum_4 rc r0 x1 x3 h) (fE PP (0) k_X5_sum 18 (fun v => [av0, .inl (.long v), av0, av0])) := by
  unfold b_X5_sum_4
  refine S_br 4 18 8 [.inr (2, r0), .inl (.long x1), av0, .inl (.int x3)] [] h rfl (fun _ => ?_) (fun _ => ?_)
  · exact S_ex x1 (fun v => [av0, .inl (.long v), av0, av0]) rfl
  · refine S_grd 5 (13, [.inr (2, r0), .inl (.long x1), av0, .inl (.int x3)], [.inl (.int (h.1 3 r0 x3.toNatClampNeg)), .inl (.long x1)], h) rfl (fun _ => ?_)
    refine S_blk 5 (4, [.inr (2, r0), .inl (.long (x1 + ((h.1 3 r0 x3.toNatClampNeg).toInt64))), av0, .inl (.int (x3 + (1 : Int32)))], [], h) rfl ?_
    refine S_nrm [.inr (2, r0), .inl (.long (x1 + ((h.1 3 r0 x3.toNatClampNeg).toInt64))), av0, .inl (.int (x3 + (1 : Int32)))] rfl ?_
    exact hrc (x1 + ((h.1 3 r0 x3.toNatClampNeg).toInt64)) (x3 + (1 : Int32)) h
theorem sl_X5_sum_4    (r0 : Nat) : ∀ (F : Nat) (x1 : Int64) (x3 : Int32) (h : AH), Sim PP (0) k_X5_sum (4, [.inr (2, r0), .inl (.long x1), av0, .inl (.int x3)], [], h) (l_X5_sum_4 F r0 x1 x3 h) (fE PP (0) k_X5_sum 18 (fun v => [av0, .inl (.long v), av0, av0])) := by
  intro F
  induction F with
  | zero => intro x1 x3 h; exact S_none
  | succ F ih => intro x1 x3 h; exact sb_X5_sum_4 (l_X5_sum_4 F) r0 x1 x3 ih h
theorem sc_X5_sum_18    (x1 : Int64)  (h : AH) : Sim PP (0) k_X5_sum (18, [av0, .inl (.long x1), av0, av0], [], h) (c_X5_sum_18  x1 h) fL := by
  unfold c_X5_sum_18
  exact S_rl 1 (19, [av0, .inl (.long x1), av0, av0], [.inl (.long x1)], h) rfl rfl
theorem s_X5_sum (r0 : Nat) (h : AH) : Sim PP (0) k_X5_sum (0, [.inr (2, r0), av0, av0, av0], [], h) (f_X5_sum r0 h) fL := by
  unfold f_X5_sum
  refine S_blk 4 (4, [.inr (2, r0), .inl (.long (0 : Int64)), av0, .inl (.int (0 : Int32))], [], h) rfl ?_
  refine S_nrm [.inr (2, r0), .inl (.long (0 : Int64)), av0, .inl (.int (0 : Int32))] rfl ?_
  refine S_lp 18 (fun v => [av0, .inl (.long v), av0, av0]) (sl_X5_sum_4 r0 FU (0 : Int64) (0 : Int32) h) (fun v h => ?_)
  exact sc_X5_sum_18 v h
theorem s_X11_mean (x1 : Int32) (h : AH) : Sim PP (1) k_X11_mean (0, [.inr (0, 0), .inl (.int x1), av0], [], h) (f_X11_mean x1 h) fI := by
  unfold f_X11_mean
  refine S_di 1 1 132 0 [.inr (0, 0), .inl (.int x1), av0] [.inl (.int x1)] [.inl (.int x1)] [.inr (0, 0), .inl (.int x1), av0] [] h rfl rfl pp_132 (by decide) (s_X11_isRow x1 h) (fun y1 h2 => ?_)
  refine S_br 1 3 5 [.inr (0, 0), .inl (.int x1), av0] [] h2 rfl (fun _ => ?_) (fun _ => ?_)
  · exact S_ri 1 (4, [.inr (0, 0), .inl (.int x1), av0], [.inl (.int (-1 : Int32))], h2) rfl rfl
  · refine S_grd 4 (9, [.inr (0, 0), .inl (.int x1), av0], [.inr (2, (x1.toNatClampNeg))], h2) rfl (fun _ => ?_)
    refine S_di 2 11 40 0 [.inr (0, 0), .inl (.int x1), .inr (2, (x1.toNatClampNeg))] [.inr (2, (x1.toNatClampNeg))] [.inr (2, (x1.toNatClampNeg))] [.inr (0, 0), .inl (.int x1), .inr (2, (x1.toNatClampNeg))] [] h2 rfl rfl pp_40 (by decide) (s_X5_isMissing (x1.toNatClampNeg) h2) (fun y3 h4 => ?_)
    refine S_br 1 17 13 [.inr (0, 0), .inl (.int x1), .inr (2, (x1.toNatClampNeg))] [] h4 rfl (fun _ => ?_) (fun _ => ?_)
    · refine S_br 3 20 24 [.inr (0, 0), .inl (.int x1), .inr (2, (x1.toNatClampNeg))] [] h4 rfl (fun _ => ?_) (fun _ => ?_)
      · refine S_di 2 22 131 0 [.inr (0, 0), .inl (.int x1), .inr (2, (x1.toNatClampNeg))] [.inl (.int (4 : Int32)), .inr (0, 0)] [.inr (0, 0), .inl (.int (4 : Int32))] [.inr (0, 0), .inl (.int x1), .inr (2, (x1.toNatClampNeg))] [] h4 rfl rfl pp_131 (by decide) (s_X11_refuse (4 : Int32) h4) (fun y5 h6 => ?_)
        exact S_ri 0 (23, [.inr (0, 0), .inl (.int x1), .inr (2, (x1.toNatClampNeg))], [.inl (.int y5)], h6) rfl rfl
      · refine S_dl 2 26 44 0 [.inr (0, 0), .inl (.int x1), .inr (2, (x1.toNatClampNeg))] [.inr (2, (x1.toNatClampNeg)), .inr (0, 0)] [.inr (2, (x1.toNatClampNeg)), av0, av0, av0] [.inr (0, 0), .inl (.int x1), .inr (2, (x1.toNatClampNeg))] [.inr (0, 0)] h4 rfl rfl pp_44 (by decide) (s_X5_sum (x1.toNatClampNeg) h4) (fun y7 h8 => ?_)
        refine S_grn 4 (31, [.inr (0, 0), .inl (.int x1), .inr (2, (x1.toNatClampNeg))], [.inl (.long (y7 / ((h8.1 2 (x1.toNatClampNeg) 1).toInt64))), .inr (0, 0)], h8) rfl (fun _ => ?_)
        exact S_ri 3 (34, [.inr (0, 0), .inl (.int x1), .inr (2, (x1.toNatClampNeg))], [.inl (.int (1 : Int32))], (hsI h8 0 0 14 ((y7 / ((h8.1 2 (x1.toNatClampNeg) 1).toInt64)).toInt32))) rfl rfl
    · refine S_di 2 15 131 0 [.inr (0, 0), .inl (.int x1), .inr (2, (x1.toNatClampNeg))] [.inl (.int (1 : Int32)), .inr (0, 0)] [.inr (0, 0), .inl (.int (1 : Int32))] [.inr (0, 0), .inl (.int x1), .inr (2, (x1.toNatClampNeg))] [] h4 rfl rfl pp_131 (by decide) (s_X11_refuse (1 : Int32) h4) (fun y9 h10 => ?_)
      exact S_ri 0 (16, [.inr (0, 0), .inl (.int x1), .inr (2, (x1.toNatClampNeg))], [.inl (.int y9)], h10) rfl rfl
theorem sb_X12_mean_27  (rc : Int32 → Int64 → Int32 → AH → Option (Int64 × AH)) (x1 : Int32) (x2 : Int64) (x4 : Int32) (hrc : ∀ (x2 : Int64) (x4 : Int32) (h : AH), Sim PP (2) k_X12_mean (27, [.inr (34, 0), .inl (.int x1), .inl (.long x2), av0, .inl (.int x4)], [], h) (rc x1 x2 x4 h) (fE PP (2) k_X12_mean 43 (fun v => [.inr (34, 0), .inl (.int x1), .inl (.long v), av0, av0])))  (h : AH) : Sim PP (2) k_X12_mean (27, [.inr (34, 0), .inl (.int x1), .inl (.long x2), av0, .inl (.int x4)], [], h) (b_X12_mean_27 rc x1 x2 x4 h) (fE PP (2) k_X12_mean 43 (fun v => [.inr (34, 0), .inl (.int x1), .inl (.long v), av0, av0])) := by
  unfold b_X12_mean_27
  refine S_grd 5 (32, [.inr (34, 0), .inl (.int x1), .inl (.long x2), av0, .inl (.int x4)], [.inl (.int (h.1 36 0 x1.toNatClampNeg)), .inl (.int x4)], h) rfl (fun _ => ?_)
  refine S_br 1 43 33 [.inr (34, 0), .inl (.int x1), .inl (.long x2), av0, .inl (.int x4)] [] h rfl (fun _ => ?_) (fun _ => ?_)
  · exact S_ex x2 (fun v => [.inr (34, 0), .inl (.int x1), .inl (.long v), av0, av0]) rfl
  · refine S_di 4 37 168 0 [.inr (34, 0), .inl (.int x1), .inl (.long x2), av0, .inl (.int x4)] [.inl (.int x4), .inl (.int x1), .inr (34, 0), .inl (.long x2)] [.inr (34, 0), .inl (.int x1), .inl (.int x4)] [.inr (34, 0), .inl (.int x1), .inl (.long x2), av0, .inl (.int x4)] [.inl (.long x2)] h rfl rfl pp_168 (by decide) (s_X12_rowAt x1 x4 h) (fun y1 h2 => ?_)
    refine S_blk 5 (27, [.inr (34, 0), .inl (.int x1), .inl (.long (x2 + y1.toInt64)), av0, .inl (.int (x4 + (1 : Int32)))], [], h2) rfl ?_
    refine S_nrm [.inr (34, 0), .inl (.int x1), .inl (.long (x2 + y1.toInt64)), av0, .inl (.int (x4 + (1 : Int32)))] rfl ?_
    exact hrc (x2 + y1.toInt64) (x4 + (1 : Int32)) h2
theorem sl_X12_mean_27    (x1 : Int32) : ∀ (F : Nat) (x2 : Int64) (x4 : Int32) (h : AH), Sim PP (2) k_X12_mean (27, [.inr (34, 0), .inl (.int x1), .inl (.long x2), av0, .inl (.int x4)], [], h) (l_X12_mean_27 F x1 x2 x4 h) (fE PP (2) k_X12_mean 43 (fun v => [.inr (34, 0), .inl (.int x1), .inl (.long v), av0, av0])) := by
  intro F
  induction F with
  | zero => intro x2 x4 h; exact S_none
  | succ F ih => intro x2 x4 h; exact sb_X12_mean_27 (l_X12_mean_27 F) x1 x2 x4 ih h
theorem sc_X12_mean_43    (x1 : Int32) (x2 : Int64)  (h : AH) : Sim PP (2) k_X12_mean (43, [.inr (34, 0), .inl (.int x1), .inl (.long x2), av0, av0], [], h) (c_X12_mean_43  x1 x2 h) fI := by
  unfold c_X12_mean_43
  refine S_grd 6 (49, [.inr (34, 0), .inl (.int x1), .inl (.long x2), av0, av0], [.inl (.int (h.1 36 0 x1.toNatClampNeg)), .inl (.long x2), .inr (34, 0)], h) rfl (fun _ => ?_)
  refine S_grn 2 (51, [.inr (34, 0), .inl (.int x1), .inl (.long x2), av0, av0], [.inl (.long (x2 / ((h.1 36 0 x1.toNatClampNeg).toInt64))), .inr (34, 0)], h) rfl (fun _ => ?_)
  refine S_di 2 53 162 0 [.inr (34, 0), .inl (.int x1), .inl (.long x2), av0, av0] [.inl (.int (1 : Int32)), .inl (.int ((x2 / ((h.1 36 0 x1.toNatClampNeg).toInt64)).toInt32)), .inr (34, 0)] [.inr (34, 0), .inl (.int ((x2 / ((h.1 36 0 x1.toNatClampNeg).toInt64)).toInt32)), .inl (.int (1 : Int32))] [.inr (34, 0), .inl (.int x1), .inl (.long x2), av0, av0] [] h rfl rfl pp_162 (by decide) (s_X12_tells ((x2 / ((h.1 36 0 x1.toNatClampNeg).toInt64)).toInt32) (1 : Int32) h) (fun y1 h2 => ?_)
  exact S_ri 0 (54, [.inr (34, 0), .inl (.int x1), .inl (.long x2), av0, av0], [.inl (.int y1)], h2) rfl rfl
theorem s_X12_mean (x1 : Int32) (h : AH) : Sim PP (2) k_X12_mean (0, [.inr (34, 0), .inl (.int x1), av0, av0, av0], [], h) (f_X12_mean x1 h) fI := by
  unfold f_X12_mean
  refine S_di 1 1 167 1 [.inr (34, 0), .inl (.int x1), av0, av0, av0] [.inl (.int x1)] [.inl (.int x1)] [.inr (34, 0), .inl (.int x1), av0, av0, av0] [] h rfl rfl pp_167 (by decide) (s_X12_isRow x1 h) (fun y1 h2 => ?_)
  refine S_br 1 3 5 [.inr (34, 0), .inl (.int x1), av0, av0, av0] [] h2 rfl (fun _ => ?_) (fun _ => ?_)
  · exact S_ri 1 (4, [.inr (34, 0), .inl (.int x1), av0, av0, av0], [.inl (.int (-1 : Int32))], h2) rfl rfl
  · refine S_grd 4 (9, [.inr (34, 0), .inl (.int x1), av0, av0, av0], [.inl (.int (h2.1 36 0 x1.toNatClampNeg))], h2) rfl (fun _ => ?_)
    refine S_br 1 14 10 [.inr (34, 0), .inl (.int x1), av0, av0, av0] [] h2 rfl (fun _ => ?_) (fun _ => ?_)
    · refine S_grd 4 (18, [.inr (34, 0), .inl (.int x1), av0, av0, av0], [.inl (.int (h2.1 36 0 x1.toNatClampNeg))], h2) rfl (fun _ => ?_)
      refine S_br 1 19 23 [.inr (34, 0), .inl (.int x1), av0, av0, av0] [] h2 rfl (fun _ => ?_) (fun _ => ?_)
      · refine S_di 2 21 159 0 [.inr (34, 0), .inl (.int x1), av0, av0, av0] [.inl (.int (4 : Int32)), .inr (34, 0)] [.inr (34, 0), .inl (.int (4 : Int32))] [.inr (34, 0), .inl (.int x1), av0, av0, av0] [] h2 rfl rfl pp_159 (by decide) (s_X12_meets (4 : Int32) h2) (fun y3 h4 => ?_)
        exact S_ri 0 (22, [.inr (34, 0), .inl (.int x1), av0, av0, av0], [.inl (.int y3)], h4) rfl rfl
      · refine S_blk 4 (27, [.inr (34, 0), .inl (.int x1), .inl (.long (0 : Int64)), av0, .inl (.int (0 : Int32))], [], h2) rfl ?_
        refine S_nrm [.inr (34, 0), .inl (.int x1), .inl (.long (0 : Int64)), av0, .inl (.int (0 : Int32))] rfl ?_
        refine S_lp 43 (fun v => [.inr (34, 0), .inl (.int x1), .inl (.long v), av0, av0]) (sl_X12_mean_27 x1 FU (0 : Int64) (0 : Int32) h2) (fun v h => ?_)
        exact sc_X12_mean_43 x1 v h
    · refine S_di 2 12 159 0 [.inr (34, 0), .inl (.int x1), av0, av0, av0] [.inl (.int (1 : Int32)), .inr (34, 0)] [.inr (34, 0), .inl (.int (1 : Int32))] [.inr (34, 0), .inl (.int x1), av0, av0, av0] [] h2 rfl rfl pp_159 (by decide) (s_X12_meets (1 : Int32) h2) (fun y5 h6 => ?_)
      exact S_ri 0 (13, [.inr (34, 0), .inl (.int x1), av0, av0, av0], [.inl (.int y5)], h6) rfl rfl
theorem s_X11_isText (x0 : Int32) (h : AH) : Sim PP (0) k_X11_isText (0, [.inl (.int x0)], [], h) (f_X11_isText x0 h) fI := by
  unfold f_X11_isText
  refine S_br 2 7 2 [.inl (.int x0)] [] h rfl (fun _ => ?_) (fun _ => ?_)
  · exact S_ri 1 (8, [.inl (.int x0)], [.inl (.int (0 : Int32))], h) rfl rfl
  · refine S_br 3 7 5 [.inl (.int x0)] [] h rfl (fun _ => ?_) (fun _ => ?_)
    · exact S_ri 1 (8, [.inl (.int x0)], [.inl (.int (0 : Int32))], h) rfl rfl
    · exact S_ri 2 (8, [.inl (.int x0)], [.inl (.int (1 : Int32))], h) rfl rfl
theorem sb_J7_fill_031fb_signs_5  (rc : Nat → Int32 → Int32 → Int32 → AH → Option (Unit × AH)) (r0 : Nat) (x1 : Int32) (x2 : Int32) (x3 : Int32) (hrc : ∀ (x2 : Int32) (h : AH), Sim PP (0) k_J7_fill_031fb (5, [.inr (6, r0), .inl (.int x1), .inl (.int x2), .inl (.int x3)], [], h) (rc r0 x1 x2 x3 h) (fE PP (0) k_J7_fill_031fb 14 (fun v => [av0, av0, av0, av0])))  (h : AH) : Sim PP (0) k_J7_fill_031fb (5, [.inr (6, r0), .inl (.int x1), .inl (.int x2), .inl (.int x3)], [], h) (b_J7_fill_031fb_signs_5 rc r0 x1 x2 x3 h) (fE PP (0) k_J7_fill_031fb 14 (fun v => [av0, av0, av0, av0])) := by
  unfold b_J7_fill_031fb_signs_5
  refine S_br 3 14 8 [.inr (6, r0), .inl (.int x1), .inl (.int x2), .inl (.int x3)] [] h rfl (fun _ => ?_) (fun _ => ?_)
  · exact S_ex () (fun v => [av0, av0, av0, av0]) rfl
  · refine S_grd 4 (12, [.inr (6, r0), .inl (.int x1), .inl (.int x2), .inl (.int x3)], [], (hsI h 6 r0 x2.toNatClampNeg x1.toInt8.toInt32)) rfl (fun _ => ?_)
    refine S_blk 2 (5, [.inr (6, r0), .inl (.int x1), .inl (.int (x2 + (1 : Int32))), .inl (.int x3)], [], (hsI h 6 r0 x2.toNatClampNeg x1.toInt8.toInt32)) rfl ?_
    refine S_nrm [.inr (6, r0), .inl (.int x1), .inl (.int (x2 + (1 : Int32))), .inl (.int x3)] rfl ?_
    exact hrc (x2 + (1 : Int32)) (hsI h 6 r0 x2.toNatClampNeg x1.toInt8.toInt32)
theorem sl_J7_fill_031fb_signs_5    (r0 : Nat) (x1 : Int32) (x3 : Int32) : ∀ (F : Nat) (x2 : Int32) (h : AH), Sim PP (0) k_J7_fill_031fb (5, [.inr (6, r0), .inl (.int x1), .inl (.int x2), .inl (.int x3)], [], h) (l_J7_fill_031fb_signs_5 F r0 x1 x2 x3 h) (fE PP (0) k_J7_fill_031fb 14 (fun v => [av0, av0, av0, av0])) := by
  intro F
  induction F with
  | zero => intro x2 h; exact S_none
  | succ F ih => intro x2 h; exact sb_J7_fill_031fb_signs_5 (l_J7_fill_031fb_signs_5 F) r0 x1 x2 x3 ih h
theorem sc_J7_fill_031fb_signs_14      (h : AH) : Sim PP (0) k_J7_fill_031fb (14, [av0, av0, av0, av0], [], h) (c_J7_fill_031fb_signs_14   h) fV := by
  unfold c_J7_fill_031fb_signs_14
  exact S_rv 0 (14, [av0, av0, av0, av0], [], h) rfl rfl
theorem s_J7_fill_031fb_signs (r0 : Nat) (x1 : Int32) (h : AH) : Sim PP (0) k_J7_fill_031fb (0, [.inr (6, r0), .inl (.int x1), av0, av0], [], h) (f_J7_fill_031fb_signs r0 x1 h) fV := by
  unfold f_J7_fill_031fb_signs
  refine S_blk 5 (5, [.inr (6, r0), .inl (.int x1), .inl (.int (0 : Int32)), .inl (.int (nI 80))], [], h) rfl ?_
  refine S_nrm [.inr (6, r0), .inl (.int x1), .inl (.int (0 : Int32)), .inl (.int (nI 80))] rfl ?_
  refine S_lp 14 (fun v => [av0, av0, av0, av0]) (sl_J7_fill_031fb_signs_5 r0 x1 (nI 80) FU (0 : Int32) h) (fun v h => ?_)
  exact sc_J7_fill_031fb_signs_14 h
theorem s_X9_renew (r0 : Nat) (x1 : Int32) (h : AH) : Sim PP (1) k_X9_renew (0, [.inr (5, r0), .inl (.int x1)], [], h) (f_X9_renew r0 x1 h) fV := by
  unfold f_X9_renew
  refine S_dv 6 6 275 0 [.inr (5, r0), .inl (.int x1)] [.inl (.int (32 : Int32)), .inr (6, r0)] [.inr (6, r0), .inl (.int (32 : Int32)), av0, av0] [.inr (5, r0), .inl (.int x1)] [] (hsI h 5 r0 1 x1) rfl rfl pp_275 (by decide) (s_J7_fill_031fb_signs r0 (32 : Int32) (hsI h 5 r0 1 x1)) (fun _ h2 => ?_)
  exact S_rv 0 (7, [.inr (5, r0), .inl (.int x1)], [], h2) rfl rfl
theorem s_X11_text (x1 : Int32) (x2 : Int32) (h : AH) : Sim PP (2) k_X11_text (0, [.inr (0, 0), .inl (.int x1), .inl (.int x2)], [], h) (f_X11_text x1 x2 h) fI := by
  unfold f_X11_text
  refine S_di 1 1 133 0 [.inr (0, 0), .inl (.int x1), .inl (.int x2)] [.inl (.int x1)] [.inl (.int x1)] [.inr (0, 0), .inl (.int x1), .inl (.int x2)] [] h rfl rfl pp_133 (by decide) (s_X11_isText x1 h) (fun y1 h2 => ?_)
  refine S_br 1 6 3 [.inr (0, 0), .inl (.int x1), .inl (.int x2)] [] h2 rfl (fun _ => ?_) (fun _ => ?_)
  · exact S_ri 1 (7, [.inr (0, 0), .inl (.int x1), .inl (.int x2)], [.inl (.int (-1 : Int32))], h2) rfl rfl
  · refine S_br 3 8 6 [.inr (0, 0), .inl (.int x1), .inl (.int x2)] [] h2 rfl (fun _ => ?_) (fun _ => ?_)
    · refine S_br 2 14 10 [.inr (0, 0), .inl (.int x1), .inl (.int x2)] [] h2 rfl (fun _ => ?_) (fun _ => ?_)
      · refine S_grd 4 (18, [.inr (0, 0), .inl (.int x1), .inl (.int x2)], [.inr (5, (x1.toNatClampNeg))], h2) rfl (fun _ => ?_)
        refine S_dv 1 19 68 1 [.inr (0, 0), .inl (.int x1), .inl (.int x2)] [.inl (.int x2), .inr (5, (x1.toNatClampNeg))] [.inr (5, (x1.toNatClampNeg)), .inl (.int x2)] [.inr (0, 0), .inl (.int x1), .inl (.int x2)] [] h2 rfl rfl pp_68 (by decide) (s_X9_renew (x1.toNatClampNeg) x2 h2) (fun _ h4 => ?_)
        exact S_ri 1 (21, [.inr (0, 0), .inl (.int x1), .inl (.int x2)], [.inl (.int x2)], h4) rfl rfl
      · refine S_di 2 12 131 0 [.inr (0, 0), .inl (.int x1), .inl (.int x2)] [.inl (.int (5 : Int32)), .inr (0, 0)] [.inr (0, 0), .inl (.int (5 : Int32))] [.inr (0, 0), .inl (.int x1), .inl (.int x2)] [] h2 rfl rfl pp_131 (by decide) (s_X11_refuse (5 : Int32) h2) (fun y5 h6 => ?_)
        exact S_ri 0 (13, [.inr (0, 0), .inl (.int x1), .inl (.int x2)], [.inl (.int y5)], h6) rfl rfl
    · exact S_ri 1 (7, [.inr (0, 0), .inl (.int x1), .inl (.int x2)], [.inl (.int (-1 : Int32))], h2) rfl rfl
theorem s_X12_isText (x0 : Int32) (h : AH) : Sim PP (1) k_X12_isText (0, [.inl (.int x0)], [], h) (f_X12_isText x0 h) fI := by
  unfold f_X12_isText
  refine S_di 3 3 154 0 [.inl (.int x0)] [.inl (.int (3 : Int32)), .inl (.int (0 : Int32)), .inl (.int x0)] [.inl (.int x0), .inl (.int (0 : Int32)), .inl (.int (3 : Int32))] [.inl (.int x0)] [] h rfl rfl pp_154 (by decide) (s_X12_in x0 (0 : Int32) (3 : Int32) h) (fun y1 h2 => ?_)
  exact S_ri 0 (4, [.inl (.int x0)], [.inl (.int y1)], h2) rfl rfl
theorem sb_X12_text_21  (rc : Int32 → Int32 → Int32 → AH → Option (Unit × AH)) (x1 : Int32) (x2 : Int32) (x3 : Int32) (hrc : ∀ (x3 : Int32) (h : AH), Sim PP (2) k_X12_text (21, [.inr (34, 0), .inl (.int x1), .inl (.int x2), .inl (.int x3)], [], h) (rc x1 x2 x3 h) (fE PP (2) k_X12_text 35 (fun v => [av0, av0, .inl (.int x2), av0])))  (h : AH) : Sim PP (2) k_X12_text (21, [.inr (34, 0), .inl (.int x1), .inl (.int x2), .inl (.int x3)], [], h) (b_X12_text_21 rc x1 x2 x3 h) (fE PP (2) k_X12_text 35 (fun v => [av0, av0, .inl (.int x2), av0])) := by
  unfold b_X12_text_21
  refine S_br 3 35 24 [.inr (34, 0), .inl (.int x1), .inl (.int x2), .inl (.int x3)] [] h rfl (fun _ => ?_) (fun _ => ?_)
  · exact S_ex () (fun v => [av0, av0, .inl (.int x2), av0]) rfl
  · refine S_grd 9 (33, [.inr (34, 0), .inl (.int x1), .inl (.int x2), .inl (.int x3)], [], (hsI h 40 0 (((80 : Int32) * x1) + x3).toNatClampNeg (32 : Int32).toInt8.toInt32)) rfl (fun _ => ?_)
    refine S_blk 2 (21, [.inr (34, 0), .inl (.int x1), .inl (.int x2), .inl (.int (x3 + (1 : Int32)))], [], (hsI h 40 0 (((80 : Int32) * x1) + x3).toNatClampNeg (32 : Int32).toInt8.toInt32)) rfl ?_
    refine S_nrm [.inr (34, 0), .inl (.int x1), .inl (.int x2), .inl (.int (x3 + (1 : Int32)))] rfl ?_
    exact hrc (x3 + (1 : Int32)) (hsI h 40 0 (((80 : Int32) * x1) + x3).toNatClampNeg (32 : Int32).toInt8.toInt32)
theorem sl_X12_text_21    (x1 : Int32) (x2 : Int32) : ∀ (F : Nat) (x3 : Int32) (h : AH), Sim PP (2) k_X12_text (21, [.inr (34, 0), .inl (.int x1), .inl (.int x2), .inl (.int x3)], [], h) (l_X12_text_21 F x1 x2 x3 h) (fE PP (2) k_X12_text 35 (fun v => [av0, av0, .inl (.int x2), av0])) := by
  intro F
  induction F with
  | zero => intro x3 h; exact S_none
  | succ F ih => intro x3 h; exact sb_X12_text_21 (l_X12_text_21 F) x1 x2 x3 ih h
theorem sc_X12_text_35    (x2 : Int32)  (h : AH) : Sim PP (2) k_X12_text (35, [av0, av0, .inl (.int x2), av0], [], h) (c_X12_text_35  x2 h) fI := by
  unfold c_X12_text_35
  exact S_ri 1 (36, [av0, av0, .inl (.int x2), av0], [.inl (.int x2)], h) rfl rfl
theorem s_X12_text (x1 : Int32) (x2 : Int32) (h : AH) : Sim PP (2) k_X12_text (0, [.inr (34, 0), .inl (.int x1), .inl (.int x2), av0], [], h) (f_X12_text x1 x2 h) fI := by
  unfold f_X12_text
  refine S_di 1 1 175 1 [.inr (34, 0), .inl (.int x1), .inl (.int x2), av0] [.inl (.int x1)] [.inl (.int x1)] [.inr (34, 0), .inl (.int x1), .inl (.int x2), av0] [] h rfl rfl pp_175 (by decide) (s_X12_isText x1 h) (fun y1 h2 => ?_)
  refine S_br 1 6 3 [.inr (34, 0), .inl (.int x1), .inl (.int x2), av0] [] h2 rfl (fun _ => ?_) (fun _ => ?_)
  · exact S_ri 1 (7, [.inr (34, 0), .inl (.int x1), .inl (.int x2), av0], [.inl (.int (-1 : Int32))], h2) rfl rfl
  · refine S_br 3 8 6 [.inr (34, 0), .inl (.int x1), .inl (.int x2), av0] [] h2 rfl (fun _ => ?_) (fun _ => ?_)
    · refine S_br 2 14 10 [.inr (34, 0), .inl (.int x1), .inl (.int x2), av0] [] h2 rfl (fun _ => ?_) (fun _ => ?_)
      · refine S_grd 5 (19, [.inr (34, 0), .inl (.int x1), .inl (.int x2), av0], [], (hsI h2 39 0 x1.toNatClampNeg x2)) rfl (fun _ => ?_)
        refine S_blk 2 (21, [.inr (34, 0), .inl (.int x1), .inl (.int x2), .inl (.int (0 : Int32))], [], (hsI h2 39 0 x1.toNatClampNeg x2)) rfl ?_
        refine S_nrm [.inr (34, 0), .inl (.int x1), .inl (.int x2), .inl (.int (0 : Int32))] rfl ?_
        refine S_lp 35 (fun v => [av0, av0, .inl (.int x2), av0]) (sl_X12_text_21 x1 x2 FU (0 : Int32) (hsI h2 39 0 x1.toNatClampNeg x2)) (fun v h => ?_)
        exact sc_X12_text_35 x2 h
      · refine S_di 2 12 159 0 [.inr (34, 0), .inl (.int x1), .inl (.int x2), av0] [.inl (.int (5 : Int32)), .inr (34, 0)] [.inr (34, 0), .inl (.int (5 : Int32))] [.inr (34, 0), .inl (.int x1), .inl (.int x2), av0] [] h2 rfl rfl pp_159 (by decide) (s_X12_meets (5 : Int32) h2) (fun y3 h4 => ?_)
        exact S_ri 0 (13, [.inr (34, 0), .inl (.int x1), .inl (.int x2), av0], [.inl (.int y3)], h4) rfl rfl
    · exact S_ri 1 (7, [.inr (34, 0), .inl (.int x1), .inl (.int x2), av0], [.inl (.int (-1 : Int32))], h2) rfl rfl
theorem s_X9_isMissing (r0 : Nat) (h : AH) : Sim PP (0) k_X9_isMissing (0, [.inr (5, r0)], [], h) (f_X9_isMissing r0 h) fI := by
  unfold f_X9_isMissing
  refine S_br 4 4 6 [.inr (5, r0)] [] h rfl (fun _ => ?_) (fun _ => ?_)
  · exact S_ri 2 (7, [.inr (5, r0)], [.inl (.int (1 : Int32))], h) rfl rfl
  · exact S_ri 1 (7, [.inr (5, r0)], [.inl (.int (0 : Int32))], h) rfl rfl
theorem s_X11_put (x1 : Int32) (x2 : Int32) (x3 : Int32) (h : AH) : Sim PP (1) k_X11_put (0, [.inr (0, 0), .inl (.int x1), .inl (.int x2), .inl (.int x3), av0, av0], [], h) (f_X11_put x1 x2 x3 h) fI := by
  unfold f_X11_put
  refine S_di 1 1 133 0 [.inr (0, 0), .inl (.int x1), .inl (.int x2), .inl (.int x3), av0, av0] [.inl (.int x1)] [.inl (.int x1)] [.inr (0, 0), .inl (.int x1), .inl (.int x2), .inl (.int x3), av0, av0] [] h rfl rfl pp_133 (by decide) (s_X11_isText x1 h) (fun y1 h2 => ?_)
  refine S_br 1 3 5 [.inr (0, 0), .inl (.int x1), .inl (.int x2), .inl (.int x3), av0, av0] [] h2 rfl (fun _ => ?_) (fun _ => ?_)
  · exact S_ri 1 (4, [.inr (0, 0), .inl (.int x1), .inl (.int x2), .inl (.int x3), av0, av0], [.inl (.int (-1 : Int32))], h2) rfl rfl
  · refine S_grd 4 (9, [.inr (0, 0), .inl (.int x1), .inl (.int x2), .inl (.int x3), av0, av0], [.inr (5, (x1.toNatClampNeg))], h2) rfl (fun _ => ?_)
    refine S_di 2 11 67 0 [.inr (0, 0), .inl (.int x1), .inl (.int x2), .inl (.int x3), .inr (5, (x1.toNatClampNeg)), av0] [.inr (5, (x1.toNatClampNeg))] [.inr (5, (x1.toNatClampNeg))] [.inr (0, 0), .inl (.int x1), .inl (.int x2), .inl (.int x3), .inr (5, (x1.toNatClampNeg)), av0] [] h2 rfl rfl pp_67 (by decide) (s_X9_isMissing (x1.toNatClampNeg) h2) (fun y3 h4 => ?_)
    refine S_br 1 17 13 [.inr (0, 0), .inl (.int x1), .inl (.int x2), .inl (.int x3), .inr (5, (x1.toNatClampNeg)), av0] [] h4 rfl (fun _ => ?_) (fun _ => ?_)
    · refine S_br 2 23 19 [.inr (0, 0), .inl (.int x1), .inl (.int x2), .inl (.int x3), .inr (5, (x1.toNatClampNeg)), av0] [] h4 rfl (fun _ => ?_) (fun _ => ?_)
      · refine S_di 2 25 131 0 [.inr (0, 0), .inl (.int x1), .inl (.int x2), .inl (.int x3), .inr (5, (x1.toNatClampNeg)), av0] [.inl (.int (2 : Int32)), .inr (0, 0)] [.inr (0, 0), .inl (.int (2 : Int32))] [.inr (0, 0), .inl (.int x1), .inl (.int x2), .inl (.int x3), .inr (5, (x1.toNatClampNeg)), av0] [] h4 rfl rfl pp_131 (by decide) (s_X11_refuse (2 : Int32) h4) (fun y5 h6 => ?_)
        exact S_ri 0 (26, [.inr (0, 0), .inl (.int x1), .inl (.int x2), .inl (.int x3), .inr (5, (x1.toNatClampNeg)), av0], [.inl (.int y5)], h6) rfl rfl
      · refine S_br 4 27 23 [.inr (0, 0), .inl (.int x1), .inl (.int x2), .inl (.int x3), .inr (5, (x1.toNatClampNeg)), av0] [] h4 rfl (fun _ => ?_) (fun _ => ?_)
        · refine S_grd 4 (31, [.inr (0, 0), .inl (.int x1), .inl (.int x2), .inl (.int x3), .inr (5, (x1.toNatClampNeg)), av0], [.inl (.int (h4.1 6 (x1.toNatClampNeg) x2.toNatClampNeg))], h4) rfl (fun _ => ?_)
          refine S_grd 7 (38, [.inr (0, 0), .inl (.int x1), .inl (.int x2), .inl (.int x3), .inr (5, (x1.toNatClampNeg)), .inl (.int (h4.1 6 (x1.toNatClampNeg) x2.toNatClampNeg))], [], (hsI h4 6 (x1.toNatClampNeg) x2.toNatClampNeg x3.toInt8.toInt32.toInt8.toInt32)) rfl (fun _ => ?_)
          exact S_ri 3 (41, [.inr (0, 0), .inl (.int x1), .inl (.int x2), .inl (.int x3), .inr (5, (x1.toNatClampNeg)), .inl (.int (h4.1 6 (x1.toNatClampNeg) x2.toNatClampNeg))], [.inl (.int ((h4.1 6 (x1.toNatClampNeg) x2.toNatClampNeg) + (1000 : Int32)))], (hsI h4 6 (x1.toNatClampNeg) x2.toNatClampNeg x3.toInt8.toInt32.toInt8.toInt32)) rfl rfl
        · refine S_di 2 25 131 0 [.inr (0, 0), .inl (.int x1), .inl (.int x2), .inl (.int x3), .inr (5, (x1.toNatClampNeg)), av0] [.inl (.int (2 : Int32)), .inr (0, 0)] [.inr (0, 0), .inl (.int (2 : Int32))] [.inr (0, 0), .inl (.int x1), .inl (.int x2), .inl (.int x3), .inr (5, (x1.toNatClampNeg)), av0] [] h4 rfl rfl pp_131 (by decide) (s_X11_refuse (2 : Int32) h4) (fun y7 h8 => ?_)
          exact S_ri 0 (26, [.inr (0, 0), .inl (.int x1), .inl (.int x2), .inl (.int x3), .inr (5, (x1.toNatClampNeg)), av0], [.inl (.int y7)], h8) rfl rfl
    · refine S_di 2 15 131 0 [.inr (0, 0), .inl (.int x1), .inl (.int x2), .inl (.int x3), .inr (5, (x1.toNatClampNeg)), av0] [.inl (.int (1 : Int32)), .inr (0, 0)] [.inr (0, 0), .inl (.int (1 : Int32))] [.inr (0, 0), .inl (.int x1), .inl (.int x2), .inl (.int x3), .inr (5, (x1.toNatClampNeg)), av0] [] h4 rfl rfl pp_131 (by decide) (s_X11_refuse (1 : Int32) h4) (fun y9 h10 => ?_)
      exact S_ri 0 (16, [.inr (0, 0), .inl (.int x1), .inl (.int x2), .inl (.int x3), .inr (5, (x1.toNatClampNeg)), av0], [.inl (.int y9)], h10) rfl rfl
theorem s_X12_put (x1 : Int32) (x2 : Int32) (x3 : Int32) (h : AH) : Sim PP (2) k_X12_put (0, [.inr (34, 0), .inl (.int x1), .inl (.int x2), .inl (.int x3), av0], [], h) (f_X12_put x1 x2 x3 h) fI := by
  unfold f_X12_put
  refine S_di 1 1 175 1 [.inr (34, 0), .inl (.int x1), .inl (.int x2), .inl (.int x3), av0] [.inl (.int x1)] [.inl (.int x1)] [.inr (34, 0), .inl (.int x1), .inl (.int x2), .inl (.int x3), av0] [] h rfl rfl pp_175 (by decide) (s_X12_isText x1 h) (fun y1 h2 => ?_)
  refine S_br 1 3 5 [.inr (34, 0), .inl (.int x1), .inl (.int x2), .inl (.int x3), av0] [] h2 rfl (fun _ => ?_) (fun _ => ?_)
  · exact S_ri 1 (4, [.inr (34, 0), .inl (.int x1), .inl (.int x2), .inl (.int x3), av0], [.inl (.int (-1 : Int32))], h2) rfl rfl
  · refine S_grd 4 (9, [.inr (34, 0), .inl (.int x1), .inl (.int x2), .inl (.int x3), av0], [.inl (.int (h2.1 39 0 x1.toNatClampNeg))], h2) rfl (fun _ => ?_)
    refine S_br 1 14 10 [.inr (34, 0), .inl (.int x1), .inl (.int x2), .inl (.int x3), av0] [] h2 rfl (fun _ => ?_) (fun _ => ?_)
    · refine S_grd 6 (20, [.inr (34, 0), .inl (.int x1), .inl (.int x2), .inl (.int x3), av0], [.inl (.int (h2.1 39 0 x1.toNatClampNeg)), .inl (.int (0 : Int32)), .inl (.int x2)], h2) rfl (fun _ => ?_)
      refine S_di 2 22 154 0 [.inr (34, 0), .inl (.int x1), .inl (.int x2), .inl (.int x3), av0] [.inl (.int ((h2.1 39 0 x1.toNatClampNeg) - (1 : Int32))), .inl (.int (0 : Int32)), .inl (.int x2)] [.inl (.int x2), .inl (.int (0 : Int32)), .inl (.int ((h2.1 39 0 x1.toNatClampNeg) - (1 : Int32)))] [.inr (34, 0), .inl (.int x1), .inl (.int x2), .inl (.int x3), av0] [] h2 rfl rfl pp_154 (by decide) (s_X12_in x2 (0 : Int32) ((h2.1 39 0 x1.toNatClampNeg) - (1 : Int32)) h2) (fun y3 h4 => ?_)
      refine S_br 1 24 28 [.inr (34, 0), .inl (.int x1), .inl (.int x2), .inl (.int x3), av0] [] h4 rfl (fun _ => ?_) (fun _ => ?_)
      · refine S_di 2 26 159 0 [.inr (34, 0), .inl (.int x1), .inl (.int x2), .inl (.int x3), av0] [.inl (.int (2 : Int32)), .inr (34, 0)] [.inr (34, 0), .inl (.int (2 : Int32))] [.inr (34, 0), .inl (.int x1), .inl (.int x2), .inl (.int x3), av0] [] h4 rfl rfl pp_159 (by decide) (s_X12_meets (2 : Int32) h4) (fun y5 h6 => ?_)
        exact S_ri 0 (27, [.inr (34, 0), .inl (.int x1), .inl (.int x2), .inl (.int x3), av0], [.inl (.int y5)], h6) rfl rfl
      · refine S_grd 8 (36, [.inr (34, 0), .inl (.int x1), .inl (.int x2), .inl (.int x3), av0], [.inl (.int (h4.1 40 0 (((80 : Int32) * x1) + x2).toNatClampNeg))], h4) rfl (fun _ => ?_)
        refine S_grd 11 (47, [.inr (34, 0), .inl (.int x1), .inl (.int x2), .inl (.int x3), .inl (.int (h4.1 40 0 (((80 : Int32) * x1) + x2).toNatClampNeg))], [], (hsI h4 40 0 (((80 : Int32) * x1) + x2).toNatClampNeg x3.toInt8.toInt32.toInt8.toInt32)) rfl (fun _ => ?_)
        exact S_ri 3 (50, [.inr (34, 0), .inl (.int x1), .inl (.int x2), .inl (.int x3), .inl (.int (h4.1 40 0 (((80 : Int32) * x1) + x2).toNatClampNeg))], [.inl (.int ((1000 : Int32) + (h4.1 40 0 (((80 : Int32) * x1) + x2).toNatClampNeg)))], (hsI h4 40 0 (((80 : Int32) * x1) + x2).toNatClampNeg x3.toInt8.toInt32.toInt8.toInt32)) rfl rfl
    · refine S_di 2 12 159 0 [.inr (34, 0), .inl (.int x1), .inl (.int x2), .inl (.int x3), av0] [.inl (.int (1 : Int32)), .inr (34, 0)] [.inr (34, 0), .inl (.int (1 : Int32))] [.inr (34, 0), .inl (.int x1), .inl (.int x2), .inl (.int x3), av0] [] h2 rfl rfl pp_159 (by decide) (s_X12_meets (1 : Int32) h2) (fun y7 h8 => ?_)
      exact S_ri 0 (13, [.inr (34, 0), .inl (.int x1), .inl (.int x2), .inl (.int x3), av0], [.inl (.int y7)], h8) rfl rfl
theorem sb_J7_fill_53178_kindBits_5  (rc : Nat → Int32 → Int32 → Int32 → AH → Option (Unit × AH)) (r0 : Nat) (x1 : Int32) (x2 : Int32) (x3 : Int32) (hrc : ∀ (x2 : Int32) (h : AH), Sim PP (0) k_J7_fill_53178 (5, [.inr (14, r0), .inl (.int x1), .inl (.int x2), .inl (.int x3)], [], h) (rc r0 x1 x2 x3 h) (fE PP (0) k_J7_fill_53178 14 (fun v => [av0, av0, av0, av0])))  (h : AH) : Sim PP (0) k_J7_fill_53178 (5, [.inr (14, r0), .inl (.int x1), .inl (.int x2), .inl (.int x3)], [], h) (b_J7_fill_53178_kindBits_5 rc r0 x1 x2 x3 h) (fE PP (0) k_J7_fill_53178 14 (fun v => [av0, av0, av0, av0])) := by
  unfold b_J7_fill_53178_kindBits_5
  refine S_br 3 14 8 [.inr (14, r0), .inl (.int x1), .inl (.int x2), .inl (.int x3)] [] h rfl (fun _ => ?_) (fun _ => ?_)
  · exact S_ex () (fun v => [av0, av0, av0, av0]) rfl
  · refine S_grd 4 (12, [.inr (14, r0), .inl (.int x1), .inl (.int x2), .inl (.int x3)], [], (hsI h 14 r0 x2.toNatClampNeg x1)) rfl (fun _ => ?_)
    refine S_blk 2 (5, [.inr (14, r0), .inl (.int x1), .inl (.int (x2 + (1 : Int32))), .inl (.int x3)], [], (hsI h 14 r0 x2.toNatClampNeg x1)) rfl ?_
    refine S_nrm [.inr (14, r0), .inl (.int x1), .inl (.int (x2 + (1 : Int32))), .inl (.int x3)] rfl ?_
    exact hrc (x2 + (1 : Int32)) (hsI h 14 r0 x2.toNatClampNeg x1)
theorem sl_J7_fill_53178_kindBits_5    (r0 : Nat) (x1 : Int32) (x3 : Int32) : ∀ (F : Nat) (x2 : Int32) (h : AH), Sim PP (0) k_J7_fill_53178 (5, [.inr (14, r0), .inl (.int x1), .inl (.int x2), .inl (.int x3)], [], h) (l_J7_fill_53178_kindBits_5 F r0 x1 x2 x3 h) (fE PP (0) k_J7_fill_53178 14 (fun v => [av0, av0, av0, av0])) := by
  intro F
  induction F with
  | zero => intro x2 h; exact S_none
  | succ F ih => intro x2 h; exact sb_J7_fill_53178_kindBits_5 (l_J7_fill_53178_kindBits_5 F) r0 x1 x2 x3 ih h
theorem sc_J7_fill_53178_kindBits_14      (h : AH) : Sim PP (0) k_J7_fill_53178 (14, [av0, av0, av0, av0], [], h) (c_J7_fill_53178_kindBits_14   h) fV := by
  unfold c_J7_fill_53178_kindBits_14
  exact S_rv 0 (14, [av0, av0, av0, av0], [], h) rfl rfl
theorem s_J7_fill_53178_kindBits (r0 : Nat) (x1 : Int32) (h : AH) : Sim PP (0) k_J7_fill_53178 (0, [.inr (14, r0), .inl (.int x1), av0, av0], [], h) (f_J7_fill_53178_kindBits r0 x1 h) fV := by
  unfold f_J7_fill_53178_kindBits
  refine S_blk 5 (5, [.inr (14, r0), .inl (.int x1), .inl (.int (0 : Int32)), .inl (.int (nI 6))], [], h) rfl ?_
  refine S_nrm [.inr (14, r0), .inl (.int x1), .inl (.int (0 : Int32)), .inl (.int (nI 6))] rfl ?_
  refine S_lp 14 (fun v => [av0, av0, av0, av0]) (sl_J7_fill_53178_kindBits_5 r0 x1 (nI 6) FU (0 : Int32) h) (fun v h => ?_)
  exact sc_J7_fill_53178_kindBits_14 h
theorem s_X6_clear (r0 : Nat) (h : AH) : Sim PP (1) k_X6_clear (0, [.inr (12, r0)], [], h) (f_X6_clear r0 h) fV := by
  unfold f_X6_clear
  refine S_dv 9 9 274 0 [.inr (12, r0)] [.inl (.int (0 : Int32)), .inr (14, r0)] [.inr (14, r0), .inl (.int (0 : Int32)), av0, av0] [.inr (12, r0)] [] (hsI (hsI h 12 r0 5 (0 : Int32)) 12 r0 6 (0 : Int32)) rfl rfl pp_274 (by decide) (s_J7_fill_53178_kindBits r0 (0 : Int32) (hsI (hsI h 12 r0 5 (0 : Int32)) 12 r0 6 (0 : Int32))) (fun _ h2 => ?_)
  exact S_rv 0 (10, [.inr (12, r0)], [], h2) rfl rfl
theorem s_X9_signAt (r0 : Nat) (x1 : Int32) (h : AH) : Sim PP (0) k_X9_signAt (0, [.inr (5, r0), .inl (.int x1)], [], h) (f_X9_signAt r0 x1 h) fI := by
  unfold f_X9_signAt
  refine S_br 2 11 2 [.inr (5, r0), .inl (.int x1)] [] h rfl (fun _ => ?_) (fun _ => ?_)
  · exact S_ri 1 (12, [.inr (5, r0), .inl (.int x1)], [.inl (.int (-9 : Int32))], h) rfl rfl
  · refine S_br 4 11 6 [.inr (5, r0), .inl (.int x1)] [] h rfl (fun _ => ?_) (fun _ => ?_)
    · exact S_ri 1 (12, [.inr (5, r0), .inl (.int x1)], [.inl (.int (-9 : Int32))], h) rfl rfl
    · refine S_grd 4 (10, [.inr (5, r0), .inl (.int x1)], [.inl (.int (h.1 6 r0 x1.toNatClampNeg))], h) rfl (fun _ => ?_)
      exact S_ri 1 (12, [.inr (5, r0), .inl (.int x1)], [.inl (.int (h.1 6 r0 x1.toNatClampNeg))], h) rfl rfl
theorem sb_X4_passBlanks_2  (rc : Nat → Int32 → AH → Option (Unit × AH)) (r1 : Nat) (x2 : Int32) (hrc : ∀ (x2 : Int32) (h : AH), Sim PP (1) k_X4_passBlanks (2, [.inr (11, 0), .inr (5, r1), .inl (.int x2)], [], h) (rc r1 x2 h) (fE PP (1) k_X4_passBlanks 19 (fun v => [av0, av0, av0])))  (h : AH) : Sim PP (1) k_X4_passBlanks (2, [.inr (11, 0), .inr (5, r1), .inl (.int x2)], [], h) (b_X4_passBlanks_2 rc r1 x2 h) (fE PP (1) k_X4_passBlanks 19 (fun v => [av0, av0, av0])) := by
  unfold b_X4_passBlanks_2
  refine S_br 3 19 5 [.inr (11, 0), .inr (5, r1), .inl (.int x2)] [] h rfl (fun _ => ?_) (fun _ => ?_)
  · exact S_ex () (fun v => [av0, av0, av0]) rfl
  · refine S_di 3 8 69 0 [.inr (11, 0), .inr (5, r1), .inl (.int x2)] [.inl (.int (h.1 11 0 1)), .inr (5, r1)] [.inr (5, r1), .inl (.int (h.1 11 0 1))] [.inr (11, 0), .inr (5, r1), .inl (.int x2)] [] h rfl rfl pp_69 (by decide) (s_X9_signAt r1 (h.1 11 0 1) h) (fun y1 h2 => ?_)
    refine S_br 2 11 19 [.inr (11, 0), .inr (5, r1), .inl (.int x2)] [] h2 rfl (fun _ => ?_) (fun _ => ?_)
    · refine S_blk 8 (2, [.inr (11, 0), .inr (5, r1), .inl (.int (x2 + (1 : Int32)))], [], (hsI h2 11 0 1 ((h2.1 11 0 1) + (1 : Int32)))) rfl ?_
      refine S_nrm [.inr (11, 0), .inr (5, r1), .inl (.int (x2 + (1 : Int32)))] rfl ?_
      exact hrc (x2 + (1 : Int32)) (hsI h2 11 0 1 ((h2.1 11 0 1) + (1 : Int32)))
    · exact S_ex () (fun v => [av0, av0, av0]) rfl
theorem sl_X4_passBlanks_2    (r1 : Nat) : ∀ (F : Nat) (x2 : Int32) (h : AH), Sim PP (1) k_X4_passBlanks (2, [.inr (11, 0), .inr (5, r1), .inl (.int x2)], [], h) (l_X4_passBlanks_2 F r1 x2 h) (fE PP (1) k_X4_passBlanks 19 (fun v => [av0, av0, av0])) := by
  intro F
  induction F with
  | zero => intro x2 h; exact S_none
  | succ F ih => intro x2 h; exact sb_X4_passBlanks_2 (l_X4_passBlanks_2 F) r1 x2 ih h
theorem sc_X4_passBlanks_19      (h : AH) : Sim PP (1) k_X4_passBlanks (19, [av0, av0, av0], [], h) (c_X4_passBlanks_19   h) fV := by
  unfold c_X4_passBlanks_19
  exact S_rv 0 (19, [av0, av0, av0], [], h) rfl rfl
theorem s_X4_passBlanks (r1 : Nat) (h : AH) : Sim PP (1) k_X4_passBlanks (0, [.inr (11, 0), .inr (5, r1), av0], [], h) (f_X4_passBlanks r1 h) fV := by
  unfold f_X4_passBlanks
  refine S_blk 2 (2, [.inr (11, 0), .inr (5, r1), .inl (.int (0 : Int32))], [], h) rfl ?_
  refine S_nrm [.inr (11, 0), .inr (5, r1), .inl (.int (0 : Int32))] rfl ?_
  refine S_lp 19 (fun v => [av0, av0, av0]) (sl_X4_passBlanks_2 r1 FU (0 : Int32) h) (fun v h => ?_)
  exact sc_X4_passBlanks_19 h
theorem s_X9_figureAt (r0 : Nat) (x1 : Int32) (h : AH) : Sim PP (1) k_X9_figureAt (0, [.inr (5, r0), .inl (.int x1), av0], [], h) (f_X9_figureAt r0 x1 h) fI := by
  unfold f_X9_figureAt
  refine S_di 2 2 69 0 [.inr (5, r0), .inl (.int x1), av0] [.inl (.int x1), .inr (5, r0)] [.inr (5, r0), .inl (.int x1)] [.inr (5, r0), .inl (.int x1), av0] [] h rfl rfl pp_69 (by decide) (s_X9_signAt r0 x1 h) (fun y1 h2 => ?_)
  refine S_br 4 14 7 [.inr (5, r0), .inl (.int x1), .inl (.int y1)] [] h2 rfl (fun _ => ?_) (fun _ => ?_)
  · exact S_ri 1 (15, [.inr (5, r0), .inl (.int x1), .inl (.int y1)], [.inl (.int (-9 : Int32))], h2) rfl rfl
  · refine S_br 3 14 10 [.inr (5, r0), .inl (.int x1), .inl (.int y1)] [] h2 rfl (fun _ => ?_) (fun _ => ?_)
    · exact S_ri 1 (15, [.inr (5, r0), .inl (.int x1), .inl (.int y1)], [.inl (.int (-9 : Int32))], h2) rfl rfl
    · exact S_ri 4 (15, [.inr (5, r0), .inl (.int x1), .inl (.int y1)], [.inl (.int (y1 - (48 : Int32)))], h2) rfl rfl
theorem s_X6_allBits (r0 : Nat) (h : AH) : Sim PP (0) k_X6_allBits (0, [.inr (12, r0)], [], h) (f_X6_allBits r0 h) fI := by
  unfold f_X6_allBits
  exact S_ri 6 (6, [.inr (12, r0)], [.inl (.int (((1 : Int32) <<< ((h.1 12 r0 5) &&& 31)) - (1 : Int32)))], h) rfl rfl
theorem s_X6_bitsOf (r0 : Nat) (x1 : Int32) (h : AH) : Sim PP (1) k_X6_bitsOf (0, [.inr (12, r0), .inl (.int x1)], [], h) (f_X6_bitsOf r0 x1 h) fI := by
  unfold f_X6_bitsOf
  refine S_blk 2 (if x1 = 1 then 2 else if x1 = 2 then 12 else if x1 = 3 then 17 else if x1 = 4 then 27 else if x1 = 5 then 32 else 37, [.inr (12, r0), .inl (.int x1)], [], h) rfl ?_
  refine S_ite (fun _ => ?_) (fun _ => ?_)
  · refine S_gt 4 (c := inb (1 : Int32) 6 = true) (6, [.inr (12, r0), .inl (.int x1)], [.inl (.int (h.1 14 r0 (1 : Int32).toNatClampNeg))], h) rfl (by decide) ?_
    refine S_gt 4 (c := inb (2 : Int32) 6 = true) (10, [.inr (12, r0), .inl (.int x1)], [.inl (.int (h.1 14 r0 (2 : Int32).toNatClampNeg)), .inl (.int (h.1 14 r0 (1 : Int32).toNatClampNeg))], h) rfl (by decide) ?_
    exact S_ri 1 (11, [.inr (12, r0), .inl (.int x1)], [.inl (.int ((h.1 14 r0 (1 : Int32).toNatClampNeg) ||| (h.1 14 r0 (2 : Int32).toNatClampNeg)))], h) rfl rfl
  · refine S_ite (fun _ => ?_) (fun _ => ?_)
    · refine S_gt 4 (c := inb (2 : Int32) 6 = true) (16, [.inr (12, r0), .inl (.int x1)], [.inl (.int (h.1 14 r0 (2 : Int32).toNatClampNeg))], h) rfl (by decide) ?_
      exact S_ri 0 (16, [.inr (12, r0), .inl (.int x1)], [.inl (.int (h.1 14 r0 (2 : Int32).toNatClampNeg))], h) rfl rfl
    · refine S_ite (fun _ => ?_) (fun _ => ?_)
      · refine S_gt 4 (c := inb (3 : Int32) 6 = true) (21, [.inr (12, r0), .inl (.int x1)], [.inl (.int (h.1 14 r0 (3 : Int32).toNatClampNeg))], h) rfl (by decide) ?_
        refine S_gt 4 (c := inb (5 : Int32) 6 = true) (25, [.inr (12, r0), .inl (.int x1)], [.inl (.int (h.1 14 r0 (5 : Int32).toNatClampNeg)), .inl (.int (h.1 14 r0 (3 : Int32).toNatClampNeg))], h) rfl (by decide) ?_
        exact S_ri 1 (26, [.inr (12, r0), .inl (.int x1)], [.inl (.int ((h.1 14 r0 (3 : Int32).toNatClampNeg) ||| (h.1 14 r0 (5 : Int32).toNatClampNeg)))], h) rfl rfl
      · refine S_ite (fun _ => ?_) (fun _ => ?_)
        · refine S_gt 4 (c := inb (4 : Int32) 6 = true) (31, [.inr (12, r0), .inl (.int x1)], [.inl (.int (h.1 14 r0 (4 : Int32).toNatClampNeg))], h) rfl (by decide) ?_
          exact S_ri 0 (31, [.inr (12, r0), .inl (.int x1)], [.inl (.int (h.1 14 r0 (4 : Int32).toNatClampNeg))], h) rfl rfl
        · refine S_ite (fun _ => ?_) (fun _ => ?_)
          · refine S_gt 4 (c := inb (5 : Int32) 6 = true) (36, [.inr (12, r0), .inl (.int x1)], [.inl (.int (h.1 14 r0 (5 : Int32).toNatClampNeg))], h) rfl (by decide) ?_
            exact S_ri 0 (36, [.inr (12, r0), .inl (.int x1)], [.inl (.int (h.1 14 r0 (5 : Int32).toNatClampNeg))], h) rfl rfl
          · refine S_di 1 38 50 0 [.inr (12, r0), .inl (.int x1)] [.inr (12, r0)] [.inr (12, r0)] [.inr (12, r0), .inl (.int x1)] [] h rfl rfl pp_50 (by decide) (s_X6_allBits r0 h) (fun y1 h2 => ?_)
            exact S_ri 0 (39, [.inr (12, r0), .inl (.int x1)], [.inl (.int y1)], h2) rfl rfl
theorem s_X11_has (x0 : Int32) (x1 : Int32) (h : AH) : Sim PP (0) k_X11_has (0, [.inl (.int x0), .inl (.int x1)], [], h) (f_X11_has x0 x1 h) fI := by
  unfold f_X11_has
  refine S_br 7 7 9 [.inl (.int x0), .inl (.int x1)] [] h rfl (fun _ => ?_) (fun _ => ?_)
  · exact S_ri 2 (10, [.inl (.int x0), .inl (.int x1)], [.inl (.int (1 : Int32))], h) rfl rfl
  · exact S_ri 1 (10, [.inl (.int x0), .inl (.int x1)], [.inl (.int (0 : Int32))], h) rfl rfl
theorem sb_X6_reasonsFor_4  (rc : Nat → Int32 → Int32 → Int32 → AH → Option (Int32 × AH)) (r0 : Nat) (x1 : Int32) (x2 : Int32) (x3 : Int32) (hrc : ∀ (x2 : Int32) (x3 : Int32) (h : AH), Sim PP (0) k_X6_reasonsFor (4, [.inr (12, r0), .inl (.int x1), .inl (.int x2), .inl (.int x3)], [], h) (rc r0 x1 x2 x3 h) (fE PP (0) k_X6_reasonsFor 24 (fun v => [av0, av0, .inl (.int v), av0])))  (h : AH) : Sim PP (0) k_X6_reasonsFor (4, [.inr (12, r0), .inl (.int x1), .inl (.int x2), .inl (.int x3)], [], h) (b_X6_reasonsFor_4 rc r0 x1 x2 x3 h) (fE PP (0) k_X6_reasonsFor 24 (fun v => [av0, av0, .inl (.int v), av0])) := by
  unfold b_X6_reasonsFor_4
  refine S_br 4 24 8 [.inr (12, r0), .inl (.int x1), .inl (.int x2), .inl (.int x3)] [] h rfl (fun _ => ?_) (fun _ => ?_)
  · exact S_ex x2 (fun v => [av0, av0, .inl (.int v), av0]) rfl
  · refine S_grd 5 (13, [.inr (12, r0), .inl (.int x1), .inl (.int x2), .inl (.int x3)], [.inl (.int (h.1 15 r0 x3.toNatClampNeg)), .inl (.int x2)], h) rfl (fun _ => ?_)
    refine S_br 2 15 19 [.inr (12, r0), .inl (.int x1), .inl (.int x2), .inl (.int x3)] [.inl (.int x2)] h rfl (fun _ => ?_) (fun _ => ?_)
    · refine S_blk 8 (4, [.inr (12, r0), .inl (.int x1), .inl (.int (x2 ||| ((1 : Int32) <<< (x3 &&& 31)))), .inl (.int (x3 + (1 : Int32)))], [], h) rfl ?_
      refine S_nrm [.inr (12, r0), .inl (.int x1), .inl (.int (x2 ||| ((1 : Int32) <<< (x3 &&& 31)))), .inl (.int (x3 + (1 : Int32)))] rfl ?_
      exact hrc (x2 ||| ((1 : Int32) <<< (x3 &&& 31))) (x3 + (1 : Int32)) h
    · refine S_blk 5 (4, [.inr (12, r0), .inl (.int x1), .inl (.int (x2 ||| (0 : Int32))), .inl (.int (x3 + (1 : Int32)))], [], h) rfl ?_
      refine S_nrm [.inr (12, r0), .inl (.int x1), .inl (.int (x2 ||| (0 : Int32))), .inl (.int (x3 + (1 : Int32)))] rfl ?_
      exact hrc (x2 ||| (0 : Int32)) (x3 + (1 : Int32)) h
theorem sl_X6_reasonsFor_4    (r0 : Nat) (x1 : Int32) : ∀ (F : Nat) (x2 : Int32) (x3 : Int32) (h : AH), Sim PP (0) k_X6_reasonsFor (4, [.inr (12, r0), .inl (.int x1), .inl (.int x2), .inl (.int x3)], [], h) (l_X6_reasonsFor_4 F r0 x1 x2 x3 h) (fE PP (0) k_X6_reasonsFor 24 (fun v => [av0, av0, .inl (.int v), av0])) := by
  intro F
  induction F with
  | zero => intro x2 x3 h; exact S_none
  | succ F ih => intro x2 x3 h; exact sb_X6_reasonsFor_4 (l_X6_reasonsFor_4 F) r0 x1 x2 x3 ih h
theorem sc_X6_reasonsFor_24    (x2 : Int32)  (h : AH) : Sim PP (0) k_X6_reasonsFor (24, [av0, av0, .inl (.int x2), av0], [], h) (c_X6_reasonsFor_24  x2 h) fI := by
  unfold c_X6_reasonsFor_24
  exact S_ri 1 (25, [av0, av0, .inl (.int x2), av0], [.inl (.int x2)], h) rfl rfl
theorem s_X6_reasonsFor (r0 : Nat) (x1 : Int32) (h : AH) : Sim PP (0) k_X6_reasonsFor (0, [.inr (12, r0), .inl (.int x1), av0, av0], [], h) (f_X6_reasonsFor r0 x1 h) fI := by
  unfold f_X6_reasonsFor
  refine S_blk 4 (4, [.inr (12, r0), .inl (.int x1), .inl (.int (0 : Int32)), .inl (.int (0 : Int32))], [], h) rfl ?_
  refine S_nrm [.inr (12, r0), .inl (.int x1), .inl (.int (0 : Int32)), .inl (.int (0 : Int32))] rfl ?_
  refine S_lp 24 (fun v => [av0, av0, .inl (.int v), av0]) (sl_X6_reasonsFor_4 r0 x1 FU (0 : Int32) (0 : Int32) h) (fun v h => ?_)
  exact sc_X6_reasonsFor_24 v h
theorem s_J6_bitCount_0f7a4 (x0 : Int32) (h : AH) : Sim PP (0) k_J6_bitCount_0f7a4 (0, [.inl (.int x0)], [], h) (f_J6_bitCount_0f7a4 x0 h) fI := by
  unfold f_J6_bitCount_0f7a4
  refine S_blk 18 (18, [.inl (.int (((x0 - (((x0.toUInt32 >>> ((1 : Int32).toUInt32 &&& Int32.toUInt32 31)).toInt32) &&& (1431655765 : Int32))) &&& (858993459 : Int32)) + ((((x0 - (((x0.toUInt32 >>> ((1 : Int32).toUInt32 &&& Int32.toUInt32 31)).toInt32) &&& (1431655765 : Int32))).toUInt32 >>> ((2 : Int32).toUInt32 &&& Int32.toUInt32 31)).toInt32) &&& (858993459 : Int32))))], [], h) rfl ?_
  refine S_lt (fun y => (18, [.inl (.int y)], [], h)) (((x0 - (((x0.toUInt32 >>> ((1 : Int32).toUInt32 &&& Int32.toUInt32 31)).toInt32) &&& (1431655765 : Int32))) &&& (858993459 : Int32)) + ((((x0 - (((x0.toUInt32 >>> ((1 : Int32).toUInt32 &&& Int32.toUInt32 31)).toInt32) &&& (1431655765 : Int32))).toUInt32 >>> ((2 : Int32).toUInt32 &&& Int32.toUInt32 31)).toInt32) &&& (858993459 : Int32))) (fun z1 => ?_)
  refine S_blk 14 (32, [.inl (.int (((z1 + ((z1.toUInt32 >>> ((4 : Int32).toUInt32 &&& Int32.toUInt32 31)).toInt32)) &&& (252645135 : Int32)) + ((((z1 + ((z1.toUInt32 >>> ((4 : Int32).toUInt32 &&& Int32.toUInt32 31)).toInt32)) &&& (252645135 : Int32)).toUInt32 >>> ((8 : Int32).toUInt32 &&& Int32.toUInt32 31)).toInt32)))], [], h) rfl ?_
  refine S_lt (fun y => (32, [.inl (.int y)], [], h)) (((z1 + ((z1.toUInt32 >>> ((4 : Int32).toUInt32 &&& Int32.toUInt32 31)).toInt32)) &&& (252645135 : Int32)) + ((((z1 + ((z1.toUInt32 >>> ((4 : Int32).toUInt32 &&& Int32.toUInt32 31)).toInt32)) &&& (252645135 : Int32)).toUInt32 >>> ((8 : Int32).toUInt32 &&& Int32.toUInt32 31)).toInt32)) (fun z2 => ?_)
  exact S_ri 9 (41, [.inl (.int (z2 + ((z2.toUInt32 >>> ((16 : Int32).toUInt32 &&& Int32.toUInt32 31)).toInt32)))], [.inl (.int ((z2 + ((z2.toUInt32 >>> ((16 : Int32).toUInt32 &&& Int32.toUInt32 31)).toInt32)) &&& (63 : Int32)))], h) rfl rfl
theorem s_X6_takesReason (r0 : Nat) (x1 : Int32) (h : AH) : Sim PP (2) k_X6_takesReason (0, [.inr (12, r0), .inl (.int x1)], [], h) (f_X6_takesReason r0 x1 h) fI := by
  unfold f_X6_takesReason
  refine S_br 2 20 2 [.inr (12, r0), .inl (.int x1)] [] h rfl (fun _ => ?_) (fun _ => ?_)
  · exact S_ri 1 (21, [.inr (12, r0), .inl (.int x1)], [.inl (.int (0 : Int32))], h) rfl rfl
  · refine S_br 4 20 6 [.inr (12, r0), .inl (.int x1)] [] h rfl (fun _ => ?_) (fun _ => ?_)
    · exact S_ri 1 (21, [.inr (12, r0), .inl (.int x1)], [.inl (.int (0 : Int32))], h) rfl rfl
    · refine S_di 2 8 51 1 [.inr (12, r0), .inl (.int x1)] [.inl (.int (1 : Int32)), .inr (12, r0)] [.inr (12, r0), .inl (.int (1 : Int32))] [.inr (12, r0), .inl (.int x1)] [] h rfl rfl pp_51 (by decide) (s_X6_bitsOf r0 (1 : Int32) h) (fun y1 h2 => ?_)
      refine S_di 1 10 138 0 [.inr (12, r0), .inl (.int x1)] [.inl (.int x1), .inl (.int y1)] [.inl (.int y1), .inl (.int x1)] [.inr (12, r0), .inl (.int x1)] [] h2 rfl rfl pp_138 (by decide) (s_X11_has y1 x1 h2) (fun y3 h4 => ?_)
      refine S_br 1 12 20 [.inr (12, r0), .inl (.int x1)] [] h4 rfl (fun _ => ?_) (fun _ => ?_)
      · refine S_di 2 14 52 0 [.inr (12, r0), .inl (.int x1)] [.inl (.int x1), .inr (12, r0)] [.inr (12, r0), .inl (.int x1), av0, av0] [.inr (12, r0), .inl (.int x1)] [] h4 rfl rfl pp_52 (by decide) (s_X6_reasonsFor r0 x1 h4) (fun y5 h6 => ?_)
        refine S_di 0 15 271 0 [.inr (12, r0), .inl (.int x1)] [.inl (.int y5)] [.inl (.int y5)] [.inr (12, r0), .inl (.int x1)] [] h6 rfl rfl pp_271 (by decide) (s_J6_bitCount_0f7a4 y5 h6) (fun y7 h8 => ?_)
        refine S_br 2 20 18 [.inr (12, r0), .inl (.int x1)] [] h8 rfl (fun _ => ?_) (fun _ => ?_)
        · exact S_ri 1 (21, [.inr (12, r0), .inl (.int x1)], [.inl (.int (0 : Int32))], h8) rfl rfl
        · exact S_ri 2 (21, [.inr (12, r0), .inl (.int x1)], [.inl (.int (1 : Int32))], h8) rfl rfl
      · exact S_ri 1 (21, [.inr (12, r0), .inl (.int x1)], [.inl (.int (0 : Int32))], h4) rfl rfl
theorem sb_X4_readParts_4  (rc : Nat → Int32 → Int32 → Int32 → Int32 → AH → Option (Int32 × AH)) (r1 : Nat) (x2 : Int32) (x3 : Int32) (x4 : Int32) (x5 : Int32) (hrc : ∀ (r1 : Nat) (x2 : Int32) (x3 : Int32) (x4 : Int32) (x5 : Int32) (h : AH), Sim PP (2) k_X4_readParts (4, [.inr (11, 0), .inr (5, r1), .inl (.int x2), .inl (.int x3), .inl (.int x4), .inl (.int x5), av0], [], h) (rc r1 x2 x3 x4 x5 h) fI)  (h : AH) : Sim PP (2) k_X4_readParts (4, [.inr (11, 0), .inr (5, r1), .inl (.int x2), .inl (.int x3), .inl (.int x4), .inl (.int x5), av0], [], h) (b_X4_readParts_4 rc r1 x2 x3 x4 x5 h) fI := by
  unfold b_X4_readParts_4
  refine S_br 3 42 7 [.inr (11, 0), .inr (5, r1), .inl (.int x2), .inl (.int x3), .inl (.int x4), .inl (.int x5), av0] [] h rfl (fun _ => ?_) (fun _ => ?_)
  · exact S_ri 1 (43, [av0, av0, av0, av0, .inl (.int x4), av0, av0], [.inl (.int x4)], h) rfl rfl
  · refine S_di 3 10 70 1 [.inr (11, 0), .inr (5, r1), .inl (.int x2), .inl (.int x3), .inl (.int x4), .inl (.int x5), av0] [.inl (.int (h.1 11 0 1)), .inr (5, r1)] [.inr (5, r1), .inl (.int (h.1 11 0 1)), av0] [.inr (11, 0), .inr (5, r1), .inl (.int x2), .inl (.int x3), .inl (.int x4), .inl (.int x5), av0] [] h rfl rfl pp_70 (by decide) (s_X9_figureAt r1 (h.1 11 0 1) h) (fun y1 h2 => ?_)
    refine S_br 3 26 14 [.inr (11, 0), .inr (5, r1), .inl (.int x2), .inl (.int x3), .inl (.int x4), .inl (.int x5), .inl (.int y1)] [] h2 rfl (fun _ => ?_) (fun _ => ?_)
    · exact S_ri 1 (27, [av0, av0, av0, av0, av0, av0, av0], [.inl (.int (0 : Int32))], h2) rfl rfl
    · refine S_br 5 26 19 [.inr (11, 0), .inr (5, r1), .inl (.int x2), .inl (.int x3), .inl (.int x4), .inl (.int x5), .inl (.int y1)] [] h2 rfl (fun _ => ?_) (fun _ => ?_)
      · exact S_ri 1 (27, [av0, av0, av0, av0, av0, av0, av0], [.inl (.int (0 : Int32))], h2) rfl rfl
      · refine S_br 3 26 22 [.inr (11, 0), .inr (5, r1), .inl (.int x2), .inl (.int x3), .inl (.int x4), .inl (.int x5), .inl (.int y1)] [] h2 rfl (fun _ => ?_) (fun _ => ?_)
        · exact S_ri 1 (27, [av0, av0, av0, av0, av0, av0, av0], [.inl (.int (0 : Int32))], h2) rfl rfl
        · refine S_di 2 24 138 0 [.inr (11, 0), .inr (5, r1), .inl (.int x2), .inl (.int x3), .inl (.int x4), .inl (.int x5), .inl (.int y1)] [.inl (.int y1), .inl (.int x4)] [.inl (.int x4), .inl (.int y1)] [.inr (11, 0), .inr (5, r1), .inl (.int x2), .inl (.int x3), .inl (.int x4), .inl (.int x5), .inl (.int y1)] [] h2 rfl rfl pp_138 (by decide) (s_X11_has x4 y1 h2) (fun y3 h4 => ?_)
          refine S_br 1 28 26 [.inr (11, 0), .inr (5, r1), .inl (.int x2), .inl (.int x3), .inl (.int x4), .inl (.int x5), .inl (.int y1)] [] h4 rfl (fun _ => ?_) (fun _ => ?_)
          · refine S_blk 14 (4, [.inr (11, 0), .inr (5, r1), .inl (.int x2), .inl (.int x3), .inl (.int (x4 ||| ((1 : Int32) <<< (y1 &&& 31)))), .inl (.int (x5 + (1 : Int32))), .inl (.int y1)], [], (hsI h4 11 0 1 ((h4.1 11 0 1) + (1 : Int32)))) rfl ?_
            refine S_nrm [.inr (11, 0), .inr (5, r1), .inl (.int x2), .inl (.int x3), .inl (.int (x4 ||| ((1 : Int32) <<< (y1 &&& 31)))), .inl (.int (x5 + (1 : Int32))), av0] rfl ?_
            exact hrc r1 x2 x3 (x4 ||| ((1 : Int32) <<< (y1 &&& 31))) (x5 + (1 : Int32)) (hsI h4 11 0 1 ((h4.1 11 0 1) + (1 : Int32)))
          · exact S_ri 1 (27, [av0, av0, av0, av0, av0, av0, av0], [.inl (.int (0 : Int32))], h4) rfl rfl
theorem sl_X4_readParts_4     : ∀ (F : Nat) (r1 : Nat) (x2 : Int32) (x3 : Int32) (x4 : Int32) (x5 : Int32) (h : AH), Sim PP (2) k_X4_readParts (4, [.inr (11, 0), .inr (5, r1), .inl (.int x2), .inl (.int x3), .inl (.int x4), .inl (.int x5), av0], [], h) (l_X4_readParts_4 F r1 x2 x3 x4 x5 h) fI := by
  intro F
  induction F with
  | zero => intro r1 x2 x3 x4 x5 h; exact S_none
  | succ F ih => intro r1 x2 x3 x4 x5 h; exact sb_X4_readParts_4 (l_X4_readParts_4 F) r1 x2 x3 x4 x5 ih h
theorem s_X4_readParts (r1 : Nat) (x2 : Int32) (x3 : Int32) (h : AH) : Sim PP (2) k_X4_readParts (0, [.inr (11, 0), .inr (5, r1), .inl (.int x2), .inl (.int x3), av0, av0, av0], [], h) (f_X4_readParts r1 x2 x3 h) fI := by
  unfold f_X4_readParts
  refine S_blk 4 (4, [.inr (11, 0), .inr (5, r1), .inl (.int x2), .inl (.int x3), .inl (.int (0 : Int32)), .inl (.int (0 : Int32)), av0], [], h) rfl ?_
  refine S_nrm [.inr (11, 0), .inr (5, r1), .inl (.int x2), .inl (.int x3), .inl (.int (0 : Int32)), .inl (.int (0 : Int32)), av0] rfl ?_
  exact (sl_X4_readParts_4  FU r1 x2 x3 (0 : Int32) (0 : Int32) h)
theorem s_X6_addReason (r0 : Nat) (x1 : Int32) (x2 : Int32) (x3 : Int32) (h : AH) : Sim PP (0) k_X6_addReason (0, [.inr (12, r0), .inl (.int x1), .inl (.int x2), .inl (.int x3)], [], h) (f_X6_addReason r0 x1 x2 x3 h) fI := by
  unfold f_X6_addReason
  refine S_br 4 6 4 [.inr (12, r0), .inl (.int x1), .inl (.int x2), .inl (.int x3)] [] h rfl (fun _ => ?_) (fun _ => ?_)
  · refine S_grd 6 (12, [.inr (12, r0), .inl (.int x1), .inl (.int x2), .inl (.int x3)], [], (hsI h 15 r0 (h.1 12 r0 6).toNatClampNeg x1)) rfl (fun _ => ?_)
    refine S_grd 6 (18, [.inr (12, r0), .inl (.int x1), .inl (.int x2), .inl (.int x3)], [], (hsI (hsI h 15 r0 (h.1 12 r0 6).toNatClampNeg x1) 16 r0 ((hsI h 15 r0 (h.1 12 r0 6).toNatClampNeg x1).1 12 r0 6).toNatClampNeg x2)) rfl (fun _ => ?_)
    refine S_grd 6 (24, [.inr (12, r0), .inl (.int x1), .inl (.int x2), .inl (.int x3)], [], (hsI (hsI (hsI h 15 r0 (h.1 12 r0 6).toNatClampNeg x1) 16 r0 ((hsI h 15 r0 (h.1 12 r0 6).toNatClampNeg x1).1 12 r0 6).toNatClampNeg x2) 17 r0 ((hsI (hsI h 15 r0 (h.1 12 r0 6).toNatClampNeg x1) 16 r0 ((hsI h 15 r0 (h.1 12 r0 6).toNatClampNeg x1).1 12 r0 6).toNatClampNeg x2).1 12 r0 6).toNatClampNeg x3)) rfl (fun _ => ?_)
    exact S_ri 7 (31, [.inr (12, r0), .inl (.int x1), .inl (.int x2), .inl (.int x3)], [.inl (.int (1 : Int32))], (hsI (hsI (hsI (hsI h 15 r0 (h.1 12 r0 6).toNatClampNeg x1) 16 r0 ((hsI h 15 r0 (h.1 12 r0 6).toNatClampNeg x1).1 12 r0 6).toNatClampNeg x2) 17 r0 ((hsI (hsI h 15 r0 (h.1 12 r0 6).toNatClampNeg x1) 16 r0 ((hsI h 15 r0 (h.1 12 r0 6).toNatClampNeg x1).1 12 r0 6).toNatClampNeg x2).1 12 r0 6).toNatClampNeg x3) 12 r0 6 (((hsI (hsI (hsI h 15 r0 (h.1 12 r0 6).toNatClampNeg x1) 16 r0 ((hsI h 15 r0 (h.1 12 r0 6).toNatClampNeg x1).1 12 r0 6).toNatClampNeg x2) 17 r0 ((hsI (hsI h 15 r0 (h.1 12 r0 6).toNatClampNeg x1) 16 r0 ((hsI h 15 r0 (h.1 12 r0 6).toNatClampNeg x1).1 12 r0 6).toNatClampNeg x2).1 12 r0 6).toNatClampNeg x3).1 12 r0 6) + (1 : Int32)))) rfl rfl
  · exact S_ri 1 (5, [.inr (12, r0), .inl (.int x1), .inl (.int x2), .inl (.int x3)], [.inl (.int (0 : Int32))], h) rfl rfl
theorem s_X4_readReason (r1 : Nat) (h : AH) : Sim PP (3) k_X4_readReason (0, [.inr (11, 0), .inr (5, r1), av0, av0, av0, av0], [], h) (f_X4_readReason r1 h) fI := by
  unfold f_X4_readReason
  refine S_br 4 9 4 [.inr (11, 0), .inr (5, r1), av0, av0, av0, av0] [] h rfl (fun _ => ?_) (fun _ => ?_)
  · exact S_ri 1 (10, [.inr (11, 0), .inr (5, r1), av0, av0, av0, av0], [.inl (.int (0 : Int32))], h) rfl rfl
  · refine S_br 5 11 9 [.inr (11, 0), .inr (5, r1), av0, av0, av0, av0] [] h rfl (fun _ => ?_) (fun _ => ?_)
    · refine S_di 9 20 70 1 [.inr (11, 0), .inr (5, r1), av0, av0, av0, av0] [.inl (.int ((hsI h 11 0 1 ((h.1 11 0 1) + (1 : Int32))).1 11 0 1)), .inr (5, r1)] [.inr (5, r1), .inl (.int ((hsI h 11 0 1 ((h.1 11 0 1) + (1 : Int32))).1 11 0 1)), av0] [.inr (11, 0), .inr (5, r1), av0, av0, av0, av0] [] (hsI h 11 0 1 ((h.1 11 0 1) + (1 : Int32))) rfl rfl pp_70 (by decide) (s_X9_figureAt r1 ((hsI h 11 0 1 ((h.1 11 0 1) + (1 : Int32))).1 11 0 1) (hsI h 11 0 1 ((h.1 11 0 1) + (1 : Int32)))) (fun y1 h2 => ?_)
      refine S_di 4 25 49 2 [.inr (11, 0), .inr (5, r1), .inl (.int y1), av0, av0, av0] [.inl (.int y1), .inr (12, 1)] [.inr (12, 1), .inl (.int y1)] [.inr (11, 0), .inr (5, r1), .inl (.int y1), av0, av0, av0] [] h2 rfl rfl pp_49 (by decide) (s_X6_takesReason 1 y1 h2) (fun y3 h4 => ?_)
      refine S_br 1 27 29 [.inr (11, 0), .inr (5, r1), .inl (.int y1), av0, av0, av0] [] h4 rfl (fun _ => ?_) (fun _ => ?_)
      · exact S_ri 1 (28, [.inr (11, 0), .inr (5, r1), .inl (.int y1), av0, av0, av0], [.inl (.int (0 : Int32))], h4) rfl rfl
      · refine S_di 9 38 70 1 [.inr (11, 0), .inr (5, r1), .inl (.int y1), av0, av0, av0] [.inl (.int ((hsI h4 11 0 1 ((h4.1 11 0 1) + (1 : Int32))).1 11 0 1)), .inr (5, r1)] [.inr (5, r1), .inl (.int ((hsI h4 11 0 1 ((h4.1 11 0 1) + (1 : Int32))).1 11 0 1)), av0] [.inr (11, 0), .inr (5, r1), .inl (.int y1), av0, av0, av0] [] (hsI h4 11 0 1 ((h4.1 11 0 1) + (1 : Int32))) rfl rfl pp_70 (by decide) (s_X9_figureAt r1 ((hsI h4 11 0 1 ((h4.1 11 0 1) + (1 : Int32))).1 11 0 1) (hsI h4 11 0 1 ((h4.1 11 0 1) + (1 : Int32)))) (fun y5 h6 => ?_)
        refine S_br 4 46 43 [.inr (11, 0), .inr (5, r1), .inl (.int y1), .inl (.int y5), av0, av0] [] h6 rfl (fun _ => ?_) (fun _ => ?_)
        · exact S_ri 1 (47, [.inr (11, 0), .inr (5, r1), .inl (.int y1), .inl (.int y5), av0, av0], [.inl (.int (0 : Int32))], h6) rfl rfl
        · refine S_br 3 48 46 [.inr (11, 0), .inr (5, r1), .inl (.int y1), .inl (.int y5), av0, av0] [] h6 rfl (fun _ => ?_) (fun _ => ?_)
          · refine S_di 10 58 38 2 [.inr (11, 0), .inr (5, r1), .inl (.int y1), .inl (.int y5), av0, av0] [.inl (.int y5), .inl (.int y1), .inr (5, r1), .inr (11, 0)] [.inr (11, 0), .inr (5, r1), .inl (.int y1), .inl (.int y5), av0, av0, av0] [.inr (11, 0), .inr (5, r1), .inl (.int y1), .inl (.int y5), av0, av0] [] (hsI h6 11 0 1 ((h6.1 11 0 1) + (1 : Int32))) rfl rfl pp_38 (by decide) (s_X4_readParts r1 y1 y5 (hsI h6 11 0 1 ((h6.1 11 0 1) + (1 : Int32)))) (fun y7 h8 => ?_)
            refine S_di 4 63 70 1 [.inr (11, 0), .inr (5, r1), .inl (.int y1), .inl (.int y5), .inl (.int y7), av0] [.inl (.int (h8.1 11 0 1)), .inr (5, r1)] [.inr (5, r1), .inl (.int (h8.1 11 0 1)), av0] [.inr (11, 0), .inr (5, r1), .inl (.int y1), .inl (.int y5), .inl (.int y7), av0] [] h8 rfl rfl pp_70 (by decide) (s_X9_figureAt r1 (h8.1 11 0 1) h8) (fun y9 h10 => ?_)
            refine S_br 3 70 67 [.inr (11, 0), .inr (5, r1), .inl (.int y1), .inl (.int y5), .inl (.int y7), .inl (.int y9)] [] h10 rfl (fun _ => ?_) (fun _ => ?_)
            · exact S_ri 1 (71, [.inr (11, 0), .inr (5, r1), .inl (.int y1), .inl (.int y5), .inl (.int y7), .inl (.int y9)], [.inl (.int (0 : Int32))], h10) rfl rfl
            · refine S_br 3 72 70 [.inr (11, 0), .inr (5, r1), .inl (.int y1), .inl (.int y5), .inl (.int y7), .inl (.int y9)] [] h10 rfl (fun _ => ?_) (fun _ => ?_)
              · refine S_di 11 83 48 0 [.inr (11, 0), .inr (5, r1), .inl (.int y1), .inl (.int y5), .inl (.int y7), .inl (.int y9)] [.inl (.int y9), .inl (.int y7), .inl (.int y1), .inr (12, 1)] [.inr (12, 1), .inl (.int y1), .inl (.int y7), .inl (.int y9)] [.inr (11, 0), .inr (5, r1), .inl (.int y1), .inl (.int y5), .inl (.int y7), .inl (.int y9)] [] (hsI h10 11 0 1 ((h10.1 11 0 1) + (1 : Int32))) rfl rfl pp_48 (by decide) (s_X6_addReason 1 y1 y7 y9 (hsI h10 11 0 1 ((h10.1 11 0 1) + (1 : Int32)))) (fun y11 h12 => ?_)
                exact S_ri 0 (84, [.inr (11, 0), .inr (5, r1), .inl (.int y1), .inl (.int y5), .inl (.int y7), .inl (.int y9)], [.inl (.int y11)], h12) rfl rfl
              · exact S_ri 1 (71, [.inr (11, 0), .inr (5, r1), .inl (.int y1), .inl (.int y5), .inl (.int y7), .inl (.int y9)], [.inl (.int (0 : Int32))], h10) rfl rfl
          · exact S_ri 1 (47, [.inr (11, 0), .inr (5, r1), .inl (.int y1), .inl (.int y5), av0, av0], [.inl (.int (0 : Int32))], h6) rfl rfl
    · exact S_ri 1 (10, [.inr (11, 0), .inr (5, r1), av0, av0, av0, av0], [.inl (.int (0 : Int32))], h) rfl rfl
theorem s_X4_kindOf (x0 : Int32) (h : AH) : Sim PP (0) k_X4_kindOf (0, [.inl (.int x0)], [], h) (f_X4_kindOf x0 h) fI := by
  unfold f_X4_kindOf
  refine S_blk 2 (if x0 = 97 then 8 else if x0 = 98 then 14 else if x0 = 99 then 2 else if x0 = 100 then 14 else if x0 = 101 then 4 else if x0 = 102 then 14 else if x0 = 103 then 14 else if x0 = 104 then 10 else if x0 = 105 then 14 else if x0 = 106 then 14 else if x0 = 107 then 14 else if x0 = 108 then 6 else if x0 = 109 then 12 else 14, [.inl (.int x0)], [], h) rfl ?_
  refine S_ite (fun _ => ?_) (fun _ => ?_)
  · exact S_ri 1 (9, [.inl (.int x0)], [.inl (.int (3 : Int32))], h) rfl rfl
  · refine S_ite (fun _ => ?_) (fun _ => ?_)
    · exact S_ri 1 (15, [.inl (.int x0)], [.inl (.int (-9 : Int32))], h) rfl rfl
    · refine S_ite (fun _ => ?_) (fun _ => ?_)
      · exact S_ri 1 (3, [.inl (.int x0)], [.inl (.int (0 : Int32))], h) rfl rfl
      · refine S_ite (fun _ => ?_) (fun _ => ?_)
        · exact S_ri 1 (15, [.inl (.int x0)], [.inl (.int (-9 : Int32))], h) rfl rfl
        · refine S_ite (fun _ => ?_) (fun _ => ?_)
          · exact S_ri 1 (5, [.inl (.int x0)], [.inl (.int (1 : Int32))], h) rfl rfl
          · refine S_ite (fun _ => ?_) (fun _ => ?_)
            · exact S_ri 1 (15, [.inl (.int x0)], [.inl (.int (-9 : Int32))], h) rfl rfl
            · refine S_ite (fun _ => ?_) (fun _ => ?_)
              · exact S_ri 1 (15, [.inl (.int x0)], [.inl (.int (-9 : Int32))], h) rfl rfl
              · refine S_ite (fun _ => ?_) (fun _ => ?_)
                · exact S_ri 1 (11, [.inl (.int x0)], [.inl (.int (4 : Int32))], h) rfl rfl
                · refine S_ite (fun _ => ?_) (fun _ => ?_)
                  · exact S_ri 1 (15, [.inl (.int x0)], [.inl (.int (-9 : Int32))], h) rfl rfl
                  · refine S_ite (fun _ => ?_) (fun _ => ?_)
                    · exact S_ri 1 (15, [.inl (.int x0)], [.inl (.int (-9 : Int32))], h) rfl rfl
                    · refine S_ite (fun _ => ?_) (fun _ => ?_)
                      · exact S_ri 1 (15, [.inl (.int x0)], [.inl (.int (-9 : Int32))], h) rfl rfl
                      · refine S_ite (fun _ => ?_) (fun _ => ?_)
                        · exact S_ri 1 (7, [.inl (.int x0)], [.inl (.int (2 : Int32))], h) rfl rfl
                        · refine S_ite (fun _ => ?_) (fun _ => ?_)
                          · exact S_ri 1 (13, [.inl (.int x0)], [.inl (.int (5 : Int32))], h) rfl rfl
                          · exact S_ri 1 (15, [.inl (.int x0)], [.inl (.int (-9 : Int32))], h) rfl rfl
theorem s_X6_addClaim (r0 : Nat) (x1 : Int32) (h : AH) : Sim PP (0) k_X6_addClaim (0, [.inr (12, r0), .inl (.int x1)], [], h) (f_X6_addClaim r0 x1 h) fI := by
  unfold f_X6_addClaim
  refine S_br 4 9 4 [.inr (12, r0), .inl (.int x1)] [] h rfl (fun _ => ?_) (fun _ => ?_)
  · exact S_ri 1 (10, [.inr (12, r0), .inl (.int x1)], [.inl (.int (0 : Int32))], h) rfl rfl
  · refine S_br 2 9 6 [.inr (12, r0), .inl (.int x1)] [] h rfl (fun _ => ?_) (fun _ => ?_)
    · exact S_ri 1 (10, [.inr (12, r0), .inl (.int x1)], [.inl (.int (0 : Int32))], h) rfl rfl
    · refine S_br 3 11 9 [.inr (12, r0), .inl (.int x1)] [] h rfl (fun _ => ?_) (fun _ => ?_)
      · refine S_grd 6 (17, [.inr (12, r0), .inl (.int x1)], [], (hsI h 13 r0 (h.1 12 r0 5).toNatClampNeg x1)) rfl (fun _ => ?_)
        refine S_grd 5 (22, [.inr (12, r0), .inl (.int x1)], [.inl (.int ((hsI h 13 r0 (h.1 12 r0 5).toNatClampNeg x1).1 14 r0 x1.toNatClampNeg)), .inl (.int x1), .inr (14, r0)], (hsI h 13 r0 (h.1 12 r0 5).toNatClampNeg x1)) rfl (fun _ => ?_)
        refine S_grd 6 (28, [.inr (12, r0), .inl (.int x1)], [], (hsI (hsI h 13 r0 (h.1 12 r0 5).toNatClampNeg x1) 14 r0 x1.toNatClampNeg (((hsI h 13 r0 (h.1 12 r0 5).toNatClampNeg x1).1 14 r0 x1.toNatClampNeg) ||| ((1 : Int32) <<< (((hsI h 13 r0 (h.1 12 r0 5).toNatClampNeg x1).1 12 r0 5) &&& 31))))) rfl (fun _ => ?_)
        exact S_ri 7 (35, [.inr (12, r0), .inl (.int x1)], [.inl (.int (1 : Int32))], (hsI (hsI (hsI h 13 r0 (h.1 12 r0 5).toNatClampNeg x1) 14 r0 x1.toNatClampNeg (((hsI h 13 r0 (h.1 12 r0 5).toNatClampNeg x1).1 14 r0 x1.toNatClampNeg) ||| ((1 : Int32) <<< (((hsI h 13 r0 (h.1 12 r0 5).toNatClampNeg x1).1 12 r0 5) &&& 31)))) 12 r0 5 (((hsI (hsI h 13 r0 (h.1 12 r0 5).toNatClampNeg x1) 14 r0 x1.toNatClampNeg (((hsI h 13 r0 (h.1 12 r0 5).toNatClampNeg x1).1 14 r0 x1.toNatClampNeg) ||| ((1 : Int32) <<< (((hsI h 13 r0 (h.1 12 r0 5).toNatClampNeg x1).1 12 r0 5) &&& 31)))).1 12 r0 5) + (1 : Int32)))) rfl rfl
      · exact S_ri 1 (10, [.inr (12, r0), .inl (.int x1)], [.inl (.int (0 : Int32))], h) rfl rfl
theorem s_X4_readItem (r1 : Nat) (h : AH) : Sim PP (4) k_X4_readItem (0, [.inr (11, 0), .inr (5, r1), av0, av0], [], h) (f_X4_readItem r1 h) fI := by
  unfold f_X4_readItem
  refine S_di 3 3 69 0 [.inr (11, 0), .inr (5, r1), av0, av0] [.inl (.int (h.1 11 0 1)), .inr (5, r1)] [.inr (5, r1), .inl (.int (h.1 11 0 1))] [.inr (11, 0), .inr (5, r1), av0, av0] [] h rfl rfl pp_69 (by decide) (s_X9_signAt r1 (h.1 11 0 1) h) (fun y1 h2 => ?_)
  refine S_br 4 8 12 [.inr (11, 0), .inr (5, r1), .inl (.int y1), av0] [] h2 rfl (fun _ => ?_) (fun _ => ?_)
  · refine S_di 2 10 37 3 [.inr (11, 0), .inr (5, r1), .inl (.int y1), av0] [.inr (5, r1), .inr (11, 0)] [.inr (11, 0), .inr (5, r1), av0, av0, av0, av0] [.inr (11, 0), .inr (5, r1), .inl (.int y1), av0] [] h2 rfl rfl pp_37 (by decide) (s_X4_readReason r1 h2) (fun y3 h4 => ?_)
    exact S_ri 0 (11, [.inr (11, 0), .inr (5, r1), .inl (.int y1), av0], [.inl (.int y3)], h4) rfl rfl
  · refine S_di 1 13 39 0 [.inr (11, 0), .inr (5, r1), .inl (.int y1), av0] [.inl (.int y1)] [.inl (.int y1)] [.inr (11, 0), .inr (5, r1), .inl (.int y1), av0] [] h2 rfl rfl pp_39 (by decide) (s_X4_kindOf y1 h2) (fun y5 h6 => ?_)
    refine S_br 4 27 18 [.inr (11, 0), .inr (5, r1), .inl (.int y1), .inl (.int y5)] [] h6 rfl (fun _ => ?_) (fun _ => ?_)
    · exact S_ri 1 (28, [.inr (11, 0), .inr (5, r1), .inl (.int y1), .inl (.int y5)], [.inl (.int (0 : Int32))], h6) rfl rfl
    · refine S_br 4 27 22 [.inr (11, 0), .inr (5, r1), .inl (.int y1), .inl (.int y5)] [] h6 rfl (fun _ => ?_) (fun _ => ?_)
      · exact S_ri 1 (28, [.inr (11, 0), .inr (5, r1), .inl (.int y1), .inl (.int y5)], [.inl (.int (0 : Int32))], h6) rfl rfl
      · refine S_di 3 25 47 0 [.inr (11, 0), .inr (5, r1), .inl (.int y1), .inl (.int y5)] [.inl (.int y5), .inr (12, 1)] [.inr (12, 1), .inl (.int y5)] [.inr (11, 0), .inr (5, r1), .inl (.int y1), .inl (.int y5)] [] h6 rfl rfl pp_47 (by decide) (s_X6_addClaim 1 y5 h6) (fun y7 h8 => ?_)
        refine S_br 1 27 29 [.inr (11, 0), .inr (5, r1), .inl (.int y1), .inl (.int y5)] [] h8 rfl (fun _ => ?_) (fun _ => ?_)
        · exact S_ri 1 (28, [.inr (11, 0), .inr (5, r1), .inl (.int y1), .inl (.int y5)], [.inl (.int (0 : Int32))], h8) rfl rfl
        · exact S_ri 7 (36, [.inr (11, 0), .inr (5, r1), .inl (.int y1), .inl (.int y5)], [.inl (.int (1 : Int32))], (hsI h8 11 0 1 ((h8.1 11 0 1) + (1 : Int32)))) rfl rfl
theorem sb_X4_faultOf_8  (rc : Nat → Int32 → AH → Option (Int32 × AH)) (r1 : Nat) (x2 : Int32) (hrc : ∀ (r1 : Nat) (x2 : Int32) (h : AH), Sim PP (5) k_X4_faultOf (8, [.inr (11, 0), .inr (5, r1), .inl (.int x2)], [], h) (rc r1 x2 h) fI)  (h : AH) : Sim PP (5) k_X4_faultOf (8, [.inr (11, 0), .inr (5, r1), .inl (.int x2)], [], h) (b_X4_faultOf_8 rc r1 x2 h) fI := by
  unfold b_X4_faultOf_8
  refine S_br 3 37 11 [.inr (11, 0), .inr (5, r1), .inl (.int x2)] [] h rfl (fun _ => ?_) (fun _ => ?_)
  · exact S_ri 2 (39, [.inr (11, 0), av0, av0], [.inl (.int (h.1 11 0 1))], h) rfl rfl
  · refine S_dv 2 13 35 1 [.inr (11, 0), .inr (5, r1), .inl (.int x2)] [.inr (5, r1), .inr (11, 0)] [.inr (11, 0), .inr (5, r1), av0] [.inr (11, 0), .inr (5, r1), .inl (.int x2)] [] h rfl rfl pp_35 (by decide) (s_X4_passBlanks r1 h) (fun _ h2 => ?_)
    refine S_br 5 28 19 [.inr (11, 0), .inr (5, r1), .inl (.int x2)] [] h2 rfl (fun _ => ?_) (fun _ => ?_)
    · refine S_di 2 30 36 4 [.inr (11, 0), .inr (5, r1), .inl (.int x2)] [.inr (5, r1), .inr (11, 0)] [.inr (11, 0), .inr (5, r1), av0, av0] [.inr (11, 0), .inr (5, r1), .inl (.int x2)] [] h2 rfl rfl pp_36 (by decide) (s_X4_readItem r1 h2) (fun y3 h4 => ?_)
      refine S_br 1 32 35 [.inr (11, 0), .inr (5, r1), .inl (.int x2)] [] h4 rfl (fun _ => ?_) (fun _ => ?_)
      · exact S_ri 2 (34, [.inr (11, 0), av0, av0], [.inl (.int (h4.1 11 0 1))], h4) rfl rfl
      · refine S_blk 2 (8, [.inr (11, 0), .inr (5, r1), .inl (.int (x2 + (1 : Int32)))], [], h4) rfl ?_
        refine S_nrm [.inr (11, 0), .inr (5, r1), .inl (.int (x2 + (1 : Int32)))] rfl ?_
        exact hrc r1 (x2 + (1 : Int32)) h4
    · refine S_br 4 23 26 [.inr (11, 0), .inr (5, r1), av0] [] h2 rfl (fun _ => ?_) (fun _ => ?_)
      · exact S_ri 3 (27, [.inr (11, 0), .inr (5, r1), av0], [.inl (.int (h2.1 5 r1 1))], h2) rfl rfl
      · exact S_ri 1 (27, [.inr (11, 0), .inr (5, r1), av0], [.inl (.int (-9 : Int32))], h2) rfl rfl
theorem sl_X4_faultOf_8     : ∀ (F : Nat) (r1 : Nat) (x2 : Int32) (h : AH), Sim PP (5) k_X4_faultOf (8, [.inr (11, 0), .inr (5, r1), .inl (.int x2)], [], h) (l_X4_faultOf_8 F r1 x2 h) fI := by
  intro F
  induction F with
  | zero => intro r1 x2 h; exact S_none
  | succ F ih => intro r1 x2 h; exact sb_X4_faultOf_8 (l_X4_faultOf_8 F) r1 x2 ih h
theorem s_X4_faultOf (r1 : Nat) (h : AH) : Sim PP (5) k_X4_faultOf (0, [.inr (11, 0), .inr (5, r1), av0], [], h) (f_X4_faultOf r1 h) fI := by
  unfold f_X4_faultOf
  refine S_dv 2 2 45 1 [.inr (11, 0), .inr (5, r1), av0] [.inr (12, 1)] [.inr (12, 1)] [.inr (11, 0), .inr (5, r1), av0] [] h rfl rfl pp_45 (by decide) (s_X6_clear 1 h) (fun _ h2 => ?_)
  refine S_blk 5 (8, [.inr (11, 0), .inr (5, r1), .inl (.int (0 : Int32))], [], (hsI h2 11 0 1 (0 : Int32))) rfl ?_
  refine S_nrm [.inr (11, 0), .inr (5, r1), .inl (.int (0 : Int32))] rfl ?_
  exact (sl_X4_faultOf_8  FU r1 (0 : Int32) (hsI h2 11 0 1 (0 : Int32)))
theorem s_X11_fault (x1 : Int32) (h : AH) : Sim PP (6) k_X11_fault (0, [.inr (0, 0), .inl (.int x1)], [], h) (f_X11_fault x1 h) fI := by
  unfold f_X11_fault
  refine S_di 1 1 133 0 [.inr (0, 0), .inl (.int x1)] [.inl (.int x1)] [.inl (.int x1)] [.inr (0, 0), .inl (.int x1)] [] h rfl rfl pp_133 (by decide) (s_X11_isText x1 h) (fun y1 h2 => ?_)
  refine S_br 1 3 5 [.inr (0, 0), .inl (.int x1)] [] h2 rfl (fun _ => ?_) (fun _ => ?_)
  · exact S_ri 1 (4, [.inr (0, 0), .inl (.int x1)], [.inl (.int (-1 : Int32))], h2) rfl rfl
  · refine S_grd 4 (9, [.inr (0, 0), .inl (.int x1)], [.inr (5, (x1.toNatClampNeg))], h2) rfl (fun _ => ?_)
    refine S_di 0 9 67 0 [.inr (0, 0), .inl (.int x1)] [.inr (5, (x1.toNatClampNeg))] [.inr (5, (x1.toNatClampNeg))] [.inr (0, 0), .inl (.int x1)] [] h2 rfl rfl pp_67 (by decide) (s_X9_isMissing (x1.toNatClampNeg) h2) (fun y3 h4 => ?_)
    refine S_br 1 15 11 [.inr (0, 0), .inl (.int x1)] [] h4 rfl (fun _ => ?_) (fun _ => ?_)
    · refine S_grd 6 (21, [.inr (0, 0), .inl (.int x1)], [.inr (5, (x1.toNatClampNeg)), .inr (11, 0)], h4) rfl (fun _ => ?_)
      refine S_di 0 21 34 5 [.inr (0, 0), .inl (.int x1)] [.inr (5, (x1.toNatClampNeg)), .inr (11, 0)] [.inr (11, 0), .inr (5, (x1.toNatClampNeg)), av0] [.inr (0, 0), .inl (.int x1)] [] h4 rfl rfl pp_34 (by decide) (s_X4_faultOf (x1.toNatClampNeg) h4) (fun y5 h6 => ?_)
      exact S_ri 0 (22, [.inr (0, 0), .inl (.int x1)], [.inl (.int y5)], h6) rfl rfl
    · refine S_di 2 13 131 0 [.inr (0, 0), .inl (.int x1)] [.inl (.int (1 : Int32)), .inr (0, 0)] [.inr (0, 0), .inl (.int (1 : Int32))] [.inr (0, 0), .inl (.int x1)] [] h4 rfl rfl pp_131 (by decide) (s_X11_refuse (1 : Int32) h4) (fun y7 h8 => ?_)
      exact S_ri 0 (14, [.inr (0, 0), .inl (.int x1)], [.inl (.int y7)], h8) rfl rfl
theorem s_X12_byteAt (x1 : Int32) (x2 : Int32) (h : AH) : Sim PP (0) k_X12_byteAt (0, [.inr (34, 0), .inl (.int x1), .inl (.int x2)], [], h) (f_X12_byteAt x1 x2 h) fI := by
  unfold f_X12_byteAt
  refine S_grd 5 (5, [.inr (34, 0), .inl (.int x1), .inl (.int x2)], [.inl (.int (h.1 39 0 x1.toNatClampNeg)), .inl (.int x2)], h) rfl (fun _ => ?_)
  refine S_br 1 15 6 [.inr (34, 0), .inl (.int x1), .inl (.int x2)] [] h rfl (fun _ => ?_) (fun _ => ?_)
  · exact S_ri 1 (16, [.inr (34, 0), .inl (.int x1), .inl (.int x2)], [.inl (.int (0 : Int32))], h) rfl rfl
  · refine S_grd 8 (14, [.inr (34, 0), .inl (.int x1), .inl (.int x2)], [.inl (.int (h.1 40 0 (((80 : Int32) * x1) + x2).toNatClampNeg))], h) rfl (fun _ => ?_)
    exact S_ri 1 (16, [.inr (34, 0), .inl (.int x1), .inl (.int x2)], [.inl (.int (h.1 40 0 (((80 : Int32) * x1) + x2).toNatClampNeg))], h) rfl rfl
theorem s_X12_isEndKind (x0 : Int32) (h : AH) : Sim PP (0) k_X12_isEndKind (0, [.inl (.int x0)], [], h) (f_X12_isEndKind x0 h) fI := by
  unfold f_X12_isEndKind
  refine S_br 3 6 3 [.inl (.int x0)] [] h rfl (fun _ => ?_) (fun _ => ?_)
  · exact S_ri 2 (9, [.inl (.int x0)], [.inl (.int (1 : Int32))], h) rfl rfl
  · refine S_br 3 6 8 [.inl (.int x0)] [] h rfl (fun _ => ?_) (fun _ => ?_)
    · exact S_ri 2 (9, [.inl (.int x0)], [.inl (.int (1 : Int32))], h) rfl rfl
    · exact S_ri 1 (9, [.inl (.int x0)], [.inl (.int (0 : Int32))], h) rfl rfl
theorem sb_X12_readFor_4  (rc : Int32 → Int32 → Int32 → AH → Option (Int32 × AH)) (x1 : Int32) (x2 : Int32) (x3 : Int32) (hrc : ∀ (x2 : Int32) (x3 : Int32) (h : AH), Sim PP (0) k_X12_readFor (4, [.inr (34, 0), .inl (.int x1), .inl (.int x2), .inl (.int x3)], [], h) (rc x1 x2 x3 h) (fE PP (0) k_X12_readFor 22 (fun v => [av0, av0, .inl (.int v), av0])))  (h : AH) : Sim PP (0) k_X12_readFor (4, [.inr (34, 0), .inl (.int x1), .inl (.int x2), .inl (.int x3)], [], h) (b_X12_readFor_4 rc x1 x2 x3 h) (fE PP (0) k_X12_readFor 22 (fun v => [av0, av0, .inl (.int v), av0])) := by
  unfold b_X12_readFor_4
  refine S_br 4 22 8 [.inr (34, 0), .inl (.int x1), .inl (.int x2), .inl (.int x3)] [] h rfl (fun _ => ?_) (fun _ => ?_)
  · exact S_ex x2 (fun v => [av0, av0, .inl (.int v), av0]) rfl
  · refine S_grd 5 (13, [.inr (34, 0), .inl (.int x1), .inl (.int x2), .inl (.int x3)], [.inl (.int (h.1 46 0 x3.toNatClampNeg)), .inl (.int x2)], h) rfl (fun _ => ?_)
    refine S_br 2 15 17 [.inr (34, 0), .inl (.int x1), .inl (.int x2), .inl (.int x3)] [.inl (.int x2)] h rfl (fun _ => ?_) (fun _ => ?_)
    · refine S_blk 6 (4, [.inr (34, 0), .inl (.int x1), .inl (.int (x2 + (1 : Int32))), .inl (.int (x3 + (1 : Int32)))], [], h) rfl ?_
      refine S_nrm [.inr (34, 0), .inl (.int x1), .inl (.int (x2 + (1 : Int32))), .inl (.int (x3 + (1 : Int32)))] rfl ?_
      exact hrc (x2 + (1 : Int32)) (x3 + (1 : Int32)) h
    · refine S_blk 5 (4, [.inr (34, 0), .inl (.int x1), .inl (.int (x2 + (0 : Int32))), .inl (.int (x3 + (1 : Int32)))], [], h) rfl ?_
      refine S_nrm [.inr (34, 0), .inl (.int x1), .inl (.int (x2 + (0 : Int32))), .inl (.int (x3 + (1 : Int32)))] rfl ?_
      exact hrc (x2 + (0 : Int32)) (x3 + (1 : Int32)) h
theorem sl_X12_readFor_4    (x1 : Int32) : ∀ (F : Nat) (x2 : Int32) (x3 : Int32) (h : AH), Sim PP (0) k_X12_readFor (4, [.inr (34, 0), .inl (.int x1), .inl (.int x2), .inl (.int x3)], [], h) (l_X12_readFor_4 F x1 x2 x3 h) (fE PP (0) k_X12_readFor 22 (fun v => [av0, av0, .inl (.int v), av0])) := by
  intro F
  induction F with
  | zero => intro x2 x3 h; exact S_none
  | succ F ih => intro x2 x3 h; exact sb_X12_readFor_4 (l_X12_readFor_4 F) x1 x2 x3 ih h
theorem sc_X12_readFor_22    (x2 : Int32)  (h : AH) : Sim PP (0) k_X12_readFor (22, [av0, av0, .inl (.int x2), av0], [], h) (c_X12_readFor_22  x2 h) fI := by
  unfold c_X12_readFor_22
  exact S_ri 1 (23, [av0, av0, .inl (.int x2), av0], [.inl (.int x2)], h) rfl rfl
theorem s_X12_readFor (x1 : Int32) (h : AH) : Sim PP (0) k_X12_readFor (0, [.inr (34, 0), .inl (.int x1), av0, av0], [], h) (f_X12_readFor x1 h) fI := by
  unfold f_X12_readFor
  refine S_blk 4 (4, [.inr (34, 0), .inl (.int x1), .inl (.int (0 : Int32)), .inl (.int (0 : Int32))], [], h) rfl ?_
  refine S_nrm [.inr (34, 0), .inl (.int x1), .inl (.int (0 : Int32)), .inl (.int (0 : Int32))] rfl ?_
  refine S_lp 22 (fun v => [av0, av0, .inl (.int v), av0]) (sl_X12_readFor_4 x1 FU (0 : Int32) (0 : Int32) h) (fun v h => ?_)
  exact sc_X12_readFor_22 v h
theorem s_X12_figure (x1 : Int32) (x2 : Int32) (x3 : Int32) (h : AH) : Sim PP (1) k_X12_figure (0, [.inr (34, 0), .inl (.int x1), .inl (.int x2), .inl (.int x3), av0], [], h) (f_X12_figure x1 x2 x3 h) fI := by
  unfold f_X12_figure
  refine S_di 5 5 178 0 [.inr (34, 0), .inl (.int x1), .inl (.int x2), .inl (.int x3), av0] [.inl (.int (h.1 34 0 19)), .inl (.int x1), .inr (34, 0), .inr (34, 0)] [.inr (34, 0), .inl (.int x1), .inl (.int (h.1 34 0 19))] [.inr (34, 0), .inl (.int x1), .inl (.int x2), .inl (.int x3), av0] [.inr (34, 0)] h rfl rfl pp_178 (by decide) (s_X12_byteAt x1 (h.1 34 0 19) h) (fun y1 h2 => ?_)
  refine S_di 7 13 154 0 [.inr (34, 0), .inl (.int x1), .inl (.int x2), .inl (.int x3), av0] [.inl (.int x3), .inl (.int x2), .inl (.int ((hsI h2 34 0 20 (y1 - (48 : Int32))).1 34 0 20))] [.inl (.int ((hsI h2 34 0 20 (y1 - (48 : Int32))).1 34 0 20)), .inl (.int x2), .inl (.int x3)] [.inr (34, 0), .inl (.int x1), .inl (.int x2), .inl (.int x3), av0] [] (hsI h2 34 0 20 (y1 - (48 : Int32))) rfl rfl pp_154 (by decide) (s_X12_in ((hsI h2 34 0 20 (y1 - (48 : Int32))).1 34 0 20) x2 x3 (hsI h2 34 0 20 (y1 - (48 : Int32)))) (fun y3 h4 => ?_)
  refine S_br 6 22 20 [.inr (34, 0), .inl (.int x1), .inl (.int x2), .inl (.int x3), .inl (.int y3)] [.inl (.int (h4.1 34 0 19)), .inr (34, 0)] h4 rfl (fun _ => ?_) (fun _ => ?_)
  · exact S_ri 4 (26, [.inr (34, 0), .inl (.int x1), .inl (.int x2), .inl (.int x3), .inl (.int y3)], [.inl (.int y3)], (hsI h4 34 0 19 ((h4.1 34 0 19) + (0 : Int32)))) rfl rfl
  · exact S_ri 5 (26, [.inr (34, 0), .inl (.int x1), .inl (.int x2), .inl (.int x3), .inl (.int y3)], [.inl (.int y3)], (hsI h4 34 0 19 ((h4.1 34 0 19) + (1 : Int32)))) rfl rfl
theorem s_X12_has (x0 : Int32) (x1 : Int32) (h : AH) : Sim PP (0) k_X12_has (0, [.inl (.int x0), .inl (.int x1)], [], h) (f_X12_has x0 x1 h) fI := by
  unfold f_X12_has
  refine S_br 7 7 9 [.inl (.int x0), .inl (.int x1)] [] h rfl (fun _ => ?_) (fun _ => ?_)
  · exact S_ri 2 (10, [.inl (.int x0), .inl (.int x1)], [.inl (.int (1 : Int32))], h) rfl rfl
  · exact S_ri 1 (10, [.inl (.int x0), .inl (.int x1)], [.inl (.int (0 : Int32))], h) rfl rfl
theorem sb_X12_readsReason_63  (rc : Int32 → Int32 → Int32 → Int32 → AH → Option (Int32 × AH)) (x1 : Int32) (x2 : Int32) (x3 : Int32) (x4 : Int32) (hrc : ∀ (x1 : Int32) (x2 : Int32) (x3 : Int32) (x4 : Int32) (h : AH), Sim PP (2) k_X12_readsReason (63, [.inr (34, 0), .inl (.int x1), .inl (.int x2), .inl (.int x3), .inl (.int x4), av0], [], h) (rc x1 x2 x3 x4 h) fI)  (h : AH) : Sim PP (2) k_X12_readsReason (63, [.inr (34, 0), .inl (.int x1), .inl (.int x2), .inl (.int x3), .inl (.int x4), av0], [], h) (b_X12_readsReason_63 rc x1 x2 x3 x4 h) fI := by
  unfold b_X12_readsReason_63
  refine S_br 2 104 65 [.inr (34, 0), .inl (.int x1), .inl (.int x2), .inl (.int x3), .inl (.int x4), av0] [] h rfl (fun _ => ?_) (fun _ => ?_)
  · refine S_di 4 108 182 1 [.inr (34, 0), .inl (.int x1), .inl (.int x2), .inl (.int x3), av0, av0] [.inl (.int (9 : Int32)), .inl (.int (1 : Int32)), .inl (.int x1), .inr (34, 0)] [.inr (34, 0), .inl (.int x1), .inl (.int (1 : Int32)), .inl (.int (9 : Int32)), av0] [.inr (34, 0), .inl (.int x1), .inl (.int x2), .inl (.int x3), av0, av0] [] h rfl rfl pp_182 (by decide) (s_X12_figure x1 (1 : Int32) (9 : Int32) h) (fun y1 h2 => ?_)
    refine S_br 1 110 112 [.inr (34, 0), .inl (.int x1), .inl (.int x2), .inl (.int x3), av0, av0] [] h2 rfl (fun _ => ?_) (fun _ => ?_)
    · exact S_ri 1 (111, [.inr (34, 0), .inl (.int x1), .inl (.int x2), .inl (.int x3), av0, av0], [.inl (.int (0 : Int32))], h2) rfl rfl
    · refine S_grd 6 (118, [.inr (34, 0), .inl (.int x1), .inl (.int x2), .inl (.int x3), av0, av0], [], (hsI h2 46 0 (h2.1 34 0 22).toNatClampNeg x2)) rfl (fun _ => ?_)
      refine S_grd 6 (124, [.inr (34, 0), .inl (.int x1), .inl (.int x2), .inl (.int x3), av0, av0], [], (hsI (hsI h2 46 0 (h2.1 34 0 22).toNatClampNeg x2) 47 0 ((hsI h2 46 0 (h2.1 34 0 22).toNatClampNeg x2).1 34 0 22).toNatClampNeg x3)) rfl (fun _ => ?_)
      refine S_grd 7 (131, [.inr (34, 0), .inl (.int x1), .inl (.int x2), .inl (.int x3), av0, av0], [], (hsI (hsI (hsI h2 46 0 (h2.1 34 0 22).toNatClampNeg x2) 47 0 ((hsI h2 46 0 (h2.1 34 0 22).toNatClampNeg x2).1 34 0 22).toNatClampNeg x3) 48 0 ((hsI (hsI h2 46 0 (h2.1 34 0 22).toNatClampNeg x2) 47 0 ((hsI h2 46 0 (h2.1 34 0 22).toNatClampNeg x2).1 34 0 22).toNatClampNeg x3).1 34 0 22).toNatClampNeg ((hsI (hsI h2 46 0 (h2.1 34 0 22).toNatClampNeg x2) 47 0 ((hsI h2 46 0 (h2.1 34 0 22).toNatClampNeg x2).1 34 0 22).toNatClampNeg x3).1 34 0 20))) rfl (fun _ => ?_)
      exact S_ri 7 (138, [.inr (34, 0), .inl (.int x1), .inl (.int x2), .inl (.int x3), av0, av0], [.inl (.int (1 : Int32))], (hsI (hsI (hsI (hsI h2 46 0 (h2.1 34 0 22).toNatClampNeg x2) 47 0 ((hsI h2 46 0 (h2.1 34 0 22).toNatClampNeg x2).1 34 0 22).toNatClampNeg x3) 48 0 ((hsI (hsI h2 46 0 (h2.1 34 0 22).toNatClampNeg x2) 47 0 ((hsI h2 46 0 (h2.1 34 0 22).toNatClampNeg x2).1 34 0 22).toNatClampNeg x3).1 34 0 22).toNatClampNeg ((hsI (hsI h2 46 0 (h2.1 34 0 22).toNatClampNeg x2) 47 0 ((hsI h2 46 0 (h2.1 34 0 22).toNatClampNeg x2).1 34 0 22).toNatClampNeg x3).1 34 0 20)) 34 0 22 (((hsI (hsI (hsI h2 46 0 (h2.1 34 0 22).toNatClampNeg x2) 47 0 ((hsI h2 46 0 (h2.1 34 0 22).toNatClampNeg x2).1 34 0 22).toNatClampNeg x3) 48 0 ((hsI (hsI h2 46 0 (h2.1 34 0 22).toNatClampNeg x2) 47 0 ((hsI h2 46 0 (h2.1 34 0 22).toNatClampNeg x2).1 34 0 22).toNatClampNeg x3).1 34 0 22).toNatClampNeg ((hsI (hsI h2 46 0 (h2.1 34 0 22).toNatClampNeg x2) 47 0 ((hsI h2 46 0 (h2.1 34 0 22).toNatClampNeg x2).1 34 0 22).toNatClampNeg x3).1 34 0 20)).1 34 0 22) + (1 : Int32)))) rfl rfl
  · refine S_di 4 69 178 0 [.inr (34, 0), .inl (.int x1), .inl (.int x2), .inl (.int x3), .inl (.int x4), av0] [.inl (.int (h.1 34 0 19)), .inl (.int x1), .inr (34, 0)] [.inr (34, 0), .inl (.int x1), .inl (.int (h.1 34 0 19))] [.inr (34, 0), .inl (.int x1), .inl (.int x2), .inl (.int x3), .inl (.int x4), av0] [] h rfl rfl pp_178 (by decide) (s_X12_byteAt x1 (h.1 34 0 19) h) (fun y3 h4 => ?_)
    refine S_di 9 79 154 0 [.inr (34, 0), .inl (.int x1), .inl (.int x2), .inl (.int x3), .inl (.int x4), .inl (.int (y3 - (48 : Int32)))] [.inl (.int ((h4.1 34 0 21) - (1 : Int32))), .inl (.int (0 : Int32)), .inl (.int (y3 - (48 : Int32)))] [.inl (.int (y3 - (48 : Int32))), .inl (.int (0 : Int32)), .inl (.int ((h4.1 34 0 21) - (1 : Int32)))] [.inr (34, 0), .inl (.int x1), .inl (.int x2), .inl (.int x3), .inl (.int x4), .inl (.int (y3 - (48 : Int32)))] [] h4 rfl rfl pp_154 (by decide) (s_X12_in (y3 - (48 : Int32)) (0 : Int32) ((h4.1 34 0 21) - (1 : Int32)) h4) (fun y5 h6 => ?_)
    refine S_br 1 88 81 [.inr (34, 0), .inl (.int x1), .inl (.int x2), .inl (.int x3), .inl (.int x4), .inl (.int (y3 - (48 : Int32)))] [] h6 rfl (fun _ => ?_) (fun _ => ?_)
    · exact S_ri 1 (89, [av0, av0, av0, av0, av0, av0], [.inl (.int (0 : Int32))], h6) rfl rfl
    · refine S_br 3 88 84 [.inr (34, 0), .inl (.int x1), .inl (.int x2), .inl (.int x3), .inl (.int x4), .inl (.int (y3 - (48 : Int32)))] [] h6 rfl (fun _ => ?_) (fun _ => ?_)
      · exact S_ri 1 (89, [av0, av0, av0, av0, av0, av0], [.inl (.int (0 : Int32))], h6) rfl rfl
      · refine S_di 2 86 155 0 [.inr (34, 0), .inl (.int x1), .inl (.int x2), .inl (.int x3), .inl (.int x4), .inl (.int (y3 - (48 : Int32)))] [.inl (.int (y3 - (48 : Int32))), .inl (.int x3)] [.inl (.int x3), .inl (.int (y3 - (48 : Int32)))] [.inr (34, 0), .inl (.int x1), .inl (.int x2), .inl (.int x3), .inl (.int x4), .inl (.int (y3 - (48 : Int32)))] [] h6 rfl rfl pp_155 (by decide) (s_X12_has x3 (y3 - (48 : Int32)) h6) (fun y7 h8 => ?_)
        refine S_br 1 90 88 [.inr (34, 0), .inl (.int x1), .inl (.int x2), .inl (.int x3), .inl (.int x4), .inl (.int (y3 - (48 : Int32)))] [] h8 rfl (fun _ => ?_) (fun _ => ?_)
        · refine S_blk 14 (63, [.inr (34, 0), .inl (.int x1), .inl (.int x2), .inl (.int (x3 ||| ((1 : Int32) <<< ((y3 - (48 : Int32)) &&& 31)))), .inl (.int (x4 + (-1 : Int32))), .inl (.int (y3 - (48 : Int32)))], [], (hsI h8 34 0 19 ((h8.1 34 0 19) + (1 : Int32)))) rfl ?_
          refine S_nrm [.inr (34, 0), .inl (.int x1), .inl (.int x2), .inl (.int (x3 ||| ((1 : Int32) <<< ((y3 - (48 : Int32)) &&& 31)))), .inl (.int (x4 + (-1 : Int32))), av0] rfl ?_
          exact hrc x1 x2 (x3 ||| ((1 : Int32) <<< ((y3 - (48 : Int32)) &&& 31))) (x4 + (-1 : Int32)) (hsI h8 34 0 19 ((h8.1 34 0 19) + (1 : Int32)))
        · exact S_ri 1 (89, [av0, av0, av0, av0, av0, av0], [.inl (.int (0 : Int32))], h8) rfl rfl
theorem sl_X12_readsReason_63     : ∀ (F : Nat) (x1 : Int32) (x2 : Int32) (x3 : Int32) (x4 : Int32) (h : AH), Sim PP (2) k_X12_readsReason (63, [.inr (34, 0), .inl (.int x1), .inl (.int x2), .inl (.int x3), .inl (.int x4), av0], [], h) (l_X12_readsReason_63 F x1 x2 x3 x4 h) fI := by
  intro F
  induction F with
  | zero => intro x1 x2 x3 x4 h; exact S_none
  | succ F ih => intro x1 x2 x3 x4 h; exact sb_X12_readsReason_63 (l_X12_readsReason_63 F) x1 x2 x3 x4 ih h
theorem s_X12_readsReason (x1 : Int32) (h : AH) : Sim PP (2) k_X12_readsReason (0, [.inr (34, 0), .inl (.int x1), av0, av0, av0, av0], [], h) (f_X12_readsReason x1 h) fI := by
  unfold f_X12_readsReason
  refine S_br 3 7 3 [.inr (34, 0), .inl (.int x1), av0, av0, av0, av0] [] h rfl (fun _ => ?_) (fun _ => ?_)
  · exact S_ri 1 (8, [.inr (34, 0), .inl (.int x1), av0, av0, av0, av0], [.inl (.int (0 : Int32))], h) rfl rfl
  · refine S_br 4 7 9 [.inr (34, 0), .inl (.int x1), av0, av0, av0, av0] [] h rfl (fun _ => ?_) (fun _ => ?_)
    · exact S_ri 1 (8, [.inr (34, 0), .inl (.int x1), av0, av0, av0, av0], [.inl (.int (0 : Int32))], h) rfl rfl
    · refine S_di 10 19 178 0 [.inr (34, 0), .inl (.int x1), av0, av0, av0, av0] [.inl (.int ((hsI h 34 0 19 ((h.1 34 0 19) + (1 : Int32))).1 34 0 19)), .inl (.int x1), .inr (34, 0)] [.inr (34, 0), .inl (.int x1), .inl (.int ((hsI h 34 0 19 ((h.1 34 0 19) + (1 : Int32))).1 34 0 19))] [.inr (34, 0), .inl (.int x1), av0, av0, av0, av0] [] (hsI h 34 0 19 ((h.1 34 0 19) + (1 : Int32))) rfl rfl pp_178 (by decide) (s_X12_byteAt x1 ((hsI h 34 0 19 ((h.1 34 0 19) + (1 : Int32))).1 34 0 19) (hsI h 34 0 19 ((h.1 34 0 19) + (1 : Int32)))) (fun y1 h2 => ?_)
      refine S_di 9 29 154 0 [.inr (34, 0), .inl (.int x1), .inl (.int (y1 - (48 : Int32))), av0, av0, av0] [.inl (.int ((h2.1 34 0 21) - (1 : Int32))), .inl (.int (0 : Int32)), .inl (.int (y1 - (48 : Int32)))] [.inl (.int (y1 - (48 : Int32))), .inl (.int (0 : Int32)), .inl (.int ((h2.1 34 0 21) - (1 : Int32)))] [.inr (34, 0), .inl (.int x1), .inl (.int (y1 - (48 : Int32))), av0, av0, av0] [] h2 rfl rfl pp_154 (by decide) (s_X12_in (y1 - (48 : Int32)) (0 : Int32) ((h2.1 34 0 21) - (1 : Int32)) h2) (fun y3 h4 => ?_)
      refine S_br 1 42 31 [.inr (34, 0), .inl (.int x1), .inl (.int (y1 - (48 : Int32))), av0, av0, av0] [] h4 rfl (fun _ => ?_) (fun _ => ?_)
      · exact S_ri 1 (43, [.inr (34, 0), .inl (.int x1), .inl (.int (y1 - (48 : Int32))), av0, av0, av0], [.inl (.int (0 : Int32))], h4) rfl rfl
      · refine S_grd 4 (35, [.inr (34, 0), .inl (.int x1), .inl (.int (y1 - (48 : Int32))), av0, av0, av0], [.inl (.int (h4.1 45 0 (y1 - (48 : Int32)).toNatClampNeg))], h4) rfl (fun _ => ?_)
        refine S_di 0 35 181 0 [.inr (34, 0), .inl (.int x1), .inl (.int (y1 - (48 : Int32))), av0, av0, av0] [.inl (.int (h4.1 45 0 (y1 - (48 : Int32)).toNatClampNeg))] [.inl (.int (h4.1 45 0 (y1 - (48 : Int32)).toNatClampNeg))] [.inr (34, 0), .inl (.int x1), .inl (.int (y1 - (48 : Int32))), av0, av0, av0] [] h4 rfl rfl pp_181 (by decide) (s_X12_isEndKind (h4.1 45 0 (y1 - (48 : Int32)).toNatClampNeg) h4) (fun y5 h6 => ?_)
        refine S_br 1 37 42 [.inr (34, 0), .inl (.int x1), .inl (.int (y1 - (48 : Int32))), av0, av0, av0] [] h6 rfl (fun _ => ?_) (fun _ => ?_)
        · refine S_di 2 39 184 0 [.inr (34, 0), .inl (.int x1), .inl (.int (y1 - (48 : Int32))), av0, av0, av0] [.inl (.int (y1 - (48 : Int32))), .inr (34, 0)] [.inr (34, 0), .inl (.int (y1 - (48 : Int32))), av0, av0] [.inr (34, 0), .inl (.int x1), .inl (.int (y1 - (48 : Int32))), av0, av0, av0] [] h6 rfl rfl pp_184 (by decide) (s_X12_readFor (y1 - (48 : Int32)) h6) (fun y7 h8 => ?_)
          refine S_br 2 42 44 [.inr (34, 0), .inl (.int x1), .inl (.int (y1 - (48 : Int32))), av0, av0, av0] [] h8 rfl (fun _ => ?_) (fun _ => ?_)
          · exact S_ri 1 (43, [.inr (34, 0), .inl (.int x1), .inl (.int (y1 - (48 : Int32))), av0, av0, av0], [.inl (.int (0 : Int32))], h8) rfl rfl
          · refine S_di 10 54 182 1 [.inr (34, 0), .inl (.int x1), .inl (.int (y1 - (48 : Int32))), av0, av0, av0] [.inl (.int (3 : Int32)), .inl (.int (1 : Int32)), .inl (.int x1), .inr (34, 0)] [.inr (34, 0), .inl (.int x1), .inl (.int (1 : Int32)), .inl (.int (3 : Int32)), av0] [.inr (34, 0), .inl (.int x1), .inl (.int (y1 - (48 : Int32))), av0, av0, av0] [] (hsI h8 34 0 19 ((h8.1 34 0 19) + (1 : Int32))) rfl rfl pp_182 (by decide) (s_X12_figure x1 (1 : Int32) (3 : Int32) (hsI h8 34 0 19 ((h8.1 34 0 19) + (1 : Int32)))) (fun y9 h10 => ?_)
            refine S_br 1 56 58 [.inr (34, 0), .inl (.int x1), .inl (.int (y1 - (48 : Int32))), av0, av0, av0] [] h10 rfl (fun _ => ?_) (fun _ => ?_)
            · exact S_ri 1 (57, [.inr (34, 0), .inl (.int x1), .inl (.int (y1 - (48 : Int32))), av0, av0, av0], [.inl (.int (0 : Int32))], h10) rfl rfl
            · refine S_blk 5 (63, [.inr (34, 0), .inl (.int x1), .inl (.int (y1 - (48 : Int32))), .inl (.int (0 : Int32)), .inl (.int (h10.1 34 0 20)), av0], [], h10) rfl ?_
              refine S_nrm [.inr (34, 0), .inl (.int x1), .inl (.int (y1 - (48 : Int32))), .inl (.int (0 : Int32)), .inl (.int (h10.1 34 0 20)), av0] rfl ?_
              exact (sl_X12_readsReason_63  FU x1 (y1 - (48 : Int32)) (0 : Int32) (h10.1 34 0 20) h10)
        · exact S_ri 1 (43, [.inr (34, 0), .inl (.int x1), .inl (.int (y1 - (48 : Int32))), av0, av0, av0], [.inl (.int (0 : Int32))], h6) rfl rfl
theorem s_X12_kindOf (x0 : Int32) (h : AH) : Sim PP (0) k_X12_kindOf (0, [.inl (.int x0)], [], h) (f_X12_kindOf x0 h) fI := by
  unfold f_X12_kindOf
  refine S_blk 2 (if x0 = 97 then 8 else if x0 = 98 then 14 else if x0 = 99 then 2 else if x0 = 100 then 14 else if x0 = 101 then 4 else if x0 = 102 then 14 else if x0 = 103 then 14 else if x0 = 104 then 10 else if x0 = 105 then 14 else if x0 = 106 then 14 else if x0 = 107 then 14 else if x0 = 108 then 6 else if x0 = 109 then 12 else 14, [.inl (.int x0)], [], h) rfl ?_
  refine S_ite (fun _ => ?_) (fun _ => ?_)
  · exact S_ri 1 (9, [.inl (.int x0)], [.inl (.int (3 : Int32))], h) rfl rfl
  · refine S_ite (fun _ => ?_) (fun _ => ?_)
    · exact S_ri 1 (15, [.inl (.int x0)], [.inl (.int (-9 : Int32))], h) rfl rfl
    · refine S_ite (fun _ => ?_) (fun _ => ?_)
      · exact S_ri 1 (3, [.inl (.int x0)], [.inl (.int (0 : Int32))], h) rfl rfl
      · refine S_ite (fun _ => ?_) (fun _ => ?_)
        · exact S_ri 1 (15, [.inl (.int x0)], [.inl (.int (-9 : Int32))], h) rfl rfl
        · refine S_ite (fun _ => ?_) (fun _ => ?_)
          · exact S_ri 1 (5, [.inl (.int x0)], [.inl (.int (1 : Int32))], h) rfl rfl
          · refine S_ite (fun _ => ?_) (fun _ => ?_)
            · exact S_ri 1 (15, [.inl (.int x0)], [.inl (.int (-9 : Int32))], h) rfl rfl
            · refine S_ite (fun _ => ?_) (fun _ => ?_)
              · exact S_ri 1 (15, [.inl (.int x0)], [.inl (.int (-9 : Int32))], h) rfl rfl
              · refine S_ite (fun _ => ?_) (fun _ => ?_)
                · exact S_ri 1 (11, [.inl (.int x0)], [.inl (.int (4 : Int32))], h) rfl rfl
                · refine S_ite (fun _ => ?_) (fun _ => ?_)
                  · exact S_ri 1 (15, [.inl (.int x0)], [.inl (.int (-9 : Int32))], h) rfl rfl
                  · refine S_ite (fun _ => ?_) (fun _ => ?_)
                    · exact S_ri 1 (15, [.inl (.int x0)], [.inl (.int (-9 : Int32))], h) rfl rfl
                    · refine S_ite (fun _ => ?_) (fun _ => ?_)
                      · exact S_ri 1 (15, [.inl (.int x0)], [.inl (.int (-9 : Int32))], h) rfl rfl
                      · refine S_ite (fun _ => ?_) (fun _ => ?_)
                        · exact S_ri 1 (7, [.inl (.int x0)], [.inl (.int (2 : Int32))], h) rfl rfl
                        · refine S_ite (fun _ => ?_) (fun _ => ?_)
                          · exact S_ri 1 (13, [.inl (.int x0)], [.inl (.int (5 : Int32))], h) rfl rfl
                          · exact S_ri 1 (15, [.inl (.int x0)], [.inl (.int (-9 : Int32))], h) rfl rfl
theorem s_X12_readsClaim (x1 : Int32) (h : AH) : Sim PP (1) k_X12_readsClaim (0, [.inr (34, 0), .inl (.int x1), av0], [], h) (f_X12_readsClaim x1 h) fI := by
  unfold f_X12_readsClaim
  refine S_di 4 4 178 0 [.inr (34, 0), .inl (.int x1), av0] [.inl (.int (h.1 34 0 19)), .inl (.int x1), .inr (34, 0)] [.inr (34, 0), .inl (.int x1), .inl (.int (h.1 34 0 19))] [.inr (34, 0), .inl (.int x1), av0] [] h rfl rfl pp_178 (by decide) (s_X12_byteAt x1 (h.1 34 0 19) h) (fun y1 h2 => ?_)
  refine S_di 0 5 180 0 [.inr (34, 0), .inl (.int x1), av0] [.inl (.int y1)] [.inl (.int y1)] [.inr (34, 0), .inl (.int x1), av0] [] h2 rfl rfl pp_180 (by decide) (s_X12_kindOf y1 h2) (fun y3 h4 => ?_)
  refine S_br 4 17 10 [.inr (34, 0), .inl (.int x1), .inl (.int y3)] [] h4 rfl (fun _ => ?_) (fun _ => ?_)
  · exact S_ri 1 (18, [.inr (34, 0), .inl (.int x1), .inl (.int y3)], [.inl (.int (0 : Int32))], h4) rfl rfl
  · refine S_br 4 17 14 [.inr (34, 0), .inl (.int x1), .inl (.int y3)] [] h4 rfl (fun _ => ?_) (fun _ => ?_)
    · exact S_ri 1 (18, [.inr (34, 0), .inl (.int x1), .inl (.int y3)], [.inl (.int (0 : Int32))], h4) rfl rfl
    · refine S_br 3 19 17 [.inr (34, 0), .inl (.int x1), .inl (.int y3)] [] h4 rfl (fun _ => ?_) (fun _ => ?_)
      · refine S_grd 6 (25, [.inr (34, 0), .inl (.int x1), .inl (.int y3)], [], (hsI h4 45 0 (h4.1 34 0 21).toNatClampNeg y3)) rfl (fun _ => ?_)
        exact S_ri 13 (38, [.inr (34, 0), .inl (.int x1), .inl (.int y3)], [.inl (.int (1 : Int32))], (hsI (hsI (hsI h4 45 0 (h4.1 34 0 21).toNatClampNeg y3) 34 0 21 (((hsI h4 45 0 (h4.1 34 0 21).toNatClampNeg y3).1 34 0 21) + (1 : Int32))) 34 0 19 (((hsI (hsI h4 45 0 (h4.1 34 0 21).toNatClampNeg y3) 34 0 21 (((hsI h4 45 0 (h4.1 34 0 21).toNatClampNeg y3).1 34 0 21) + (1 : Int32))).1 34 0 19) + (1 : Int32)))) rfl rfl
      · exact S_ri 1 (18, [.inr (34, 0), .inl (.int x1), .inl (.int y3)], [.inl (.int (0 : Int32))], h4) rfl rfl
theorem sb_X12_faultOf_9  (rc : Int32 → AH → Option (Int32 × AH)) (x1 : Int32) (hrc : ∀ (x1 : Int32) (h : AH), Sim PP (3) k_X12_faultOf (9, [.inr (34, 0), .inl (.int x1), av0], [], h) (rc x1 h) fI)  (h : AH) : Sim PP (3) k_X12_faultOf (9, [.inr (34, 0), .inl (.int x1), av0], [], h) (b_X12_faultOf_9 rc x1 h) fI := by
  unfold b_X12_faultOf_9
  refine S_grd 6 (15, [.inr (34, 0), .inl (.int x1), av0], [.inl (.int (h.1 39 0 x1.toNatClampNeg)), .inl (.int (h.1 34 0 19))], h) rfl (fun _ => ?_)
  refine S_br 1 48 16 [.inr (34, 0), .inl (.int x1), av0] [] h rfl (fun _ => ?_) (fun _ => ?_)
  · refine S_br 3 51 56 [.inr (34, 0), .inl (.int x1), av0] [] h rfl (fun _ => ?_) (fun _ => ?_)
    · refine S_grd 4 (55, [.inr (34, 0), .inl (.int x1), av0], [.inl (.int (h.1 39 0 x1.toNatClampNeg))], h) rfl (fun _ => ?_)
      exact S_ri 1 (57, [.inr (34, 0), .inl (.int x1), av0], [.inl (.int (h.1 39 0 x1.toNatClampNeg))], h) rfl rfl
    · exact S_ri 1 (57, [.inr (34, 0), .inl (.int x1), av0], [.inl (.int (-9 : Int32))], h) rfl rfl
  · refine S_di 4 20 178 0 [.inr (34, 0), .inl (.int x1), av0] [.inl (.int (h.1 34 0 19)), .inl (.int x1), .inr (34, 0)] [.inr (34, 0), .inl (.int x1), .inl (.int (h.1 34 0 19))] [.inr (34, 0), .inl (.int x1), av0] [] h rfl rfl pp_178 (by decide) (s_X12_byteAt x1 (h.1 34 0 19) h) (fun y1 h2 => ?_)
    refine S_br 4 25 32 [.inr (34, 0), .inl (.int x1), .inl (.int y1)] [] h2 rfl (fun _ => ?_) (fun _ => ?_)
    · refine S_blk 8 (9, [.inr (34, 0), .inl (.int x1), .inl (.int y1)], [], (hsI h2 34 0 19 ((h2.1 34 0 19) + (1 : Int32)))) rfl ?_
      refine S_nrm [.inr (34, 0), .inl (.int x1), av0] rfl ?_
      exact hrc x1 (hsI h2 34 0 19 ((h2.1 34 0 19) + (1 : Int32)))
    · refine S_br 3 35 40 [.inr (34, 0), .inl (.int x1), .inl (.int y1)] [] h2 rfl (fun _ => ?_) (fun _ => ?_)
      · refine S_di 2 37 185 2 [.inr (34, 0), .inl (.int x1), .inl (.int y1)] [.inl (.int x1), .inr (34, 0)] [.inr (34, 0), .inl (.int x1), av0, av0, av0, av0] [.inr (34, 0), .inl (.int x1), .inl (.int y1)] [] h2 rfl rfl pp_185 (by decide) (s_X12_readsReason x1 h2) (fun y3 h4 => ?_)
        refine S_br 1 44 39 [.inr (34, 0), .inl (.int x1), .inl (.int y1)] [] h4 rfl (fun _ => ?_) (fun _ => ?_)
        · exact S_ri 2 (46, [.inr (34, 0), av0, av0], [.inl (.int (h4.1 34 0 19))], h4) rfl rfl
        · refine S_blk 2 (9, [.inr (34, 0), .inl (.int x1), .inl (.int y1)], [], h4) rfl ?_
          refine S_nrm [.inr (34, 0), .inl (.int x1), av0] rfl ?_
          exact hrc x1 h4
      · refine S_di 2 42 183 1 [.inr (34, 0), .inl (.int x1), .inl (.int y1)] [.inl (.int x1), .inr (34, 0)] [.inr (34, 0), .inl (.int x1), av0] [.inr (34, 0), .inl (.int x1), .inl (.int y1)] [] h2 rfl rfl pp_183 (by decide) (s_X12_readsClaim x1 h2) (fun y5 h6 => ?_)
        refine S_br 1 44 47 [.inr (34, 0), .inl (.int x1), .inl (.int y1)] [] h6 rfl (fun _ => ?_) (fun _ => ?_)
        · exact S_ri 2 (46, [.inr (34, 0), av0, av0], [.inl (.int (h6.1 34 0 19))], h6) rfl rfl
        · refine S_blk 1 (9, [.inr (34, 0), .inl (.int x1), .inl (.int y1)], [], h6) rfl ?_
          refine S_nrm [.inr (34, 0), .inl (.int x1), av0] rfl ?_
          exact hrc x1 h6
theorem sl_X12_faultOf_9     : ∀ (F : Nat) (x1 : Int32) (h : AH), Sim PP (3) k_X12_faultOf (9, [.inr (34, 0), .inl (.int x1), av0], [], h) (l_X12_faultOf_9 F x1 h) fI := by
  intro F
  induction F with
  | zero => intro x1 h; exact S_none
  | succ F ih => intro x1 h; exact sb_X12_faultOf_9 (l_X12_faultOf_9 F) x1 ih h
theorem s_X12_faultOf (x1 : Int32) (h : AH) : Sim PP (3) k_X12_faultOf (0, [.inr (34, 0), .inl (.int x1), av0], [], h) (f_X12_faultOf x1 h) fI := by
  unfold f_X12_faultOf
  refine S_blk 9 (9, [.inr (34, 0), .inl (.int x1), av0], [], (hsI (hsI (hsI h 34 0 19 (0 : Int32)) 34 0 21 (0 : Int32)) 34 0 22 (0 : Int32))) rfl ?_
  refine S_nrm [.inr (34, 0), .inl (.int x1), av0] rfl ?_
  exact (sl_X12_faultOf_9  FU x1 (hsI (hsI (hsI h 34 0 19 (0 : Int32)) 34 0 21 (0 : Int32)) 34 0 22 (0 : Int32)))
theorem s_X12_fault (x1 : Int32) (h : AH) : Sim PP (4) k_X12_fault (0, [.inr (34, 0), .inl (.int x1)], [], h) (f_X12_fault x1 h) fI := by
  unfold f_X12_fault
  refine S_di 1 1 175 1 [.inr (34, 0), .inl (.int x1)] [.inl (.int x1)] [.inl (.int x1)] [.inr (34, 0), .inl (.int x1)] [] h rfl rfl pp_175 (by decide) (s_X12_isText x1 h) (fun y1 h2 => ?_)
  refine S_br 1 3 5 [.inr (34, 0), .inl (.int x1)] [] h2 rfl (fun _ => ?_) (fun _ => ?_)
  · exact S_ri 1 (4, [.inr (34, 0), .inl (.int x1)], [.inl (.int (-1 : Int32))], h2) rfl rfl
  · refine S_grd 4 (9, [.inr (34, 0), .inl (.int x1)], [.inl (.int (h2.1 39 0 x1.toNatClampNeg))], h2) rfl (fun _ => ?_)
    refine S_br 1 14 10 [.inr (34, 0), .inl (.int x1)] [] h2 rfl (fun _ => ?_) (fun _ => ?_)
    · refine S_di 2 16 186 3 [.inr (34, 0), .inl (.int x1)] [.inl (.int x1), .inr (34, 0)] [.inr (34, 0), .inl (.int x1), av0] [.inr (34, 0), .inl (.int x1)] [] h2 rfl rfl pp_186 (by decide) (s_X12_faultOf x1 h2) (fun y3 h4 => ?_)
      exact S_ri 0 (17, [.inr (34, 0), .inl (.int x1)], [.inl (.int y3)], h4) rfl rfl
    · refine S_di 2 12 159 0 [.inr (34, 0), .inl (.int x1)] [.inl (.int (1 : Int32)), .inr (34, 0)] [.inr (34, 0), .inl (.int (1 : Int32))] [.inr (34, 0), .inl (.int x1)] [] h2 rfl rfl pp_159 (by decide) (s_X12_meets (1 : Int32) h2) (fun y5 h6 => ?_)
      exact S_ri 1 (17, [.inr (34, 0), .inl (.int x1)], [.inl (.int y5)], h6) rfl rfl
theorem s_X6_become (r0 : Nat) (r1 : Nat) (h : AH) : Sim PP (0) k_X6_become (0, [.inr (12, r0), .inr (12, r1)], [], h) (f_X6_become r0 r1 h) fV := by
  unfold f_X6_become
  refine S_gt 16 (c := (¬ (0 : Int32) < 0 ∧ ¬ (0 : Int32) < 0 ∧ ¬ (10 : Int32) < 0) ∧ (0 : Int32).toNatClampNeg + (10 : Int32).toNatClampNeg ≤ 10 ∧ (0 : Int32).toNatClampNeg + (10 : Int32).toNatClampNeg ≤ 10) (16, [.inr (12, r0), .inr (12, r1)], [], (hcp (hsI (hsI h 12 r0 5 (h.1 12 r1 5)) 12 r0 6 ((hsI h 12 r0 5 (h.1 12 r1 5)).1 12 r1 6)) 13 r1 13 r0 (0 : Int32).toNatClampNeg (0 : Int32).toNatClampNeg (10 : Int32).toNatClampNeg)) rfl (by decide) ?_
  refine S_gt 8 (c := (¬ (0 : Int32) < 0 ∧ ¬ (0 : Int32) < 0 ∧ ¬ (6 : Int32) < 0) ∧ (0 : Int32).toNatClampNeg + (6 : Int32).toNatClampNeg ≤ 6 ∧ (0 : Int32).toNatClampNeg + (6 : Int32).toNatClampNeg ≤ 6) (24, [.inr (12, r0), .inr (12, r1)], [], (hcp (hcp (hsI (hsI h 12 r0 5 (h.1 12 r1 5)) 12 r0 6 ((hsI h 12 r0 5 (h.1 12 r1 5)).1 12 r1 6)) 13 r1 13 r0 (0 : Int32).toNatClampNeg (0 : Int32).toNatClampNeg (10 : Int32).toNatClampNeg) 14 r1 14 r0 (0 : Int32).toNatClampNeg (0 : Int32).toNatClampNeg (6 : Int32).toNatClampNeg)) rfl (by decide) ?_
  refine S_gt 8 (c := (¬ (0 : Int32) < 0 ∧ ¬ (0 : Int32) < 0 ∧ ¬ (14 : Int32) < 0) ∧ (0 : Int32).toNatClampNeg + (14 : Int32).toNatClampNeg ≤ 14 ∧ (0 : Int32).toNatClampNeg + (14 : Int32).toNatClampNeg ≤ 14) (32, [.inr (12, r0), .inr (12, r1)], [], (hcp (hcp (hcp (hsI (hsI h 12 r0 5 (h.1 12 r1 5)) 12 r0 6 ((hsI h 12 r0 5 (h.1 12 r1 5)).1 12 r1 6)) 13 r1 13 r0 (0 : Int32).toNatClampNeg (0 : Int32).toNatClampNeg (10 : Int32).toNatClampNeg) 14 r1 14 r0 (0 : Int32).toNatClampNeg (0 : Int32).toNatClampNeg (6 : Int32).toNatClampNeg) 15 r1 15 r0 (0 : Int32).toNatClampNeg (0 : Int32).toNatClampNeg (14 : Int32).toNatClampNeg)) rfl (by decide) ?_
  refine S_gt 8 (c := (¬ (0 : Int32) < 0 ∧ ¬ (0 : Int32) < 0 ∧ ¬ (14 : Int32) < 0) ∧ (0 : Int32).toNatClampNeg + (14 : Int32).toNatClampNeg ≤ 14 ∧ (0 : Int32).toNatClampNeg + (14 : Int32).toNatClampNeg ≤ 14) (40, [.inr (12, r0), .inr (12, r1)], [], (hcp (hcp (hcp (hcp (hsI (hsI h 12 r0 5 (h.1 12 r1 5)) 12 r0 6 ((hsI h 12 r0 5 (h.1 12 r1 5)).1 12 r1 6)) 13 r1 13 r0 (0 : Int32).toNatClampNeg (0 : Int32).toNatClampNeg (10 : Int32).toNatClampNeg) 14 r1 14 r0 (0 : Int32).toNatClampNeg (0 : Int32).toNatClampNeg (6 : Int32).toNatClampNeg) 15 r1 15 r0 (0 : Int32).toNatClampNeg (0 : Int32).toNatClampNeg (14 : Int32).toNatClampNeg) 16 r1 16 r0 (0 : Int32).toNatClampNeg (0 : Int32).toNatClampNeg (14 : Int32).toNatClampNeg)) rfl (by decide) ?_
  refine S_gt 8 (c := (¬ (0 : Int32) < 0 ∧ ¬ (0 : Int32) < 0 ∧ ¬ (14 : Int32) < 0) ∧ (0 : Int32).toNatClampNeg + (14 : Int32).toNatClampNeg ≤ 14 ∧ (0 : Int32).toNatClampNeg + (14 : Int32).toNatClampNeg ≤ 14) (48, [.inr (12, r0), .inr (12, r1)], [], (hcp (hcp (hcp (hcp (hcp (hsI (hsI h 12 r0 5 (h.1 12 r1 5)) 12 r0 6 ((hsI h 12 r0 5 (h.1 12 r1 5)).1 12 r1 6)) 13 r1 13 r0 (0 : Int32).toNatClampNeg (0 : Int32).toNatClampNeg (10 : Int32).toNatClampNeg) 14 r1 14 r0 (0 : Int32).toNatClampNeg (0 : Int32).toNatClampNeg (6 : Int32).toNatClampNeg) 15 r1 15 r0 (0 : Int32).toNatClampNeg (0 : Int32).toNatClampNeg (14 : Int32).toNatClampNeg) 16 r1 16 r0 (0 : Int32).toNatClampNeg (0 : Int32).toNatClampNeg (14 : Int32).toNatClampNeg) 17 r1 17 r0 (0 : Int32).toNatClampNeg (0 : Int32).toNatClampNeg (14 : Int32).toNatClampNeg)) rfl (by decide) ?_
  exact S_rv 0 (48, [.inr (12, r0), .inr (12, r1)], [], (hcp (hcp (hcp (hcp (hcp (hsI (hsI h 12 r0 5 (h.1 12 r1 5)) 12 r0 6 ((hsI h 12 r0 5 (h.1 12 r1 5)).1 12 r1 6)) 13 r1 13 r0 (0 : Int32).toNatClampNeg (0 : Int32).toNatClampNeg (10 : Int32).toNatClampNeg) 14 r1 14 r0 (0 : Int32).toNatClampNeg (0 : Int32).toNatClampNeg (6 : Int32).toNatClampNeg) 15 r1 15 r0 (0 : Int32).toNatClampNeg (0 : Int32).toNatClampNeg (14 : Int32).toNatClampNeg) 16 r1 16 r0 (0 : Int32).toNatClampNeg (0 : Int32).toNatClampNeg (14 : Int32).toNatClampNeg) 17 r1 17 r0 (0 : Int32).toNatClampNeg (0 : Int32).toNatClampNeg (14 : Int32).toNatClampNeg)) rfl rfl
theorem s_X7_renew (r0 : Nat) (r1 : Nat) (h : AH) : Sim PP (0) k_X7_renew (0, [.inr (8, r0), .inr (12, r1)], [], h) (f_X7_renew r0 r1 h) fV := by
  unfold f_X7_renew
  refine S_gt 20 (c := (¬ (0 : Int32) < 0 ∧ ¬ (0 : Int32) < 0 ∧ ¬ (14 : Int32) < 0) ∧ (0 : Int32).toNatClampNeg + (14 : Int32).toNatClampNeg ≤ 14 ∧ (0 : Int32).toNatClampNeg + (14 : Int32).toNatClampNeg ≤ 14) (20, [.inr (8, r0), .inr (12, r1)], [], (hcp (hsI (hsI (hsI (hsI h 8 r0 2 (0 : Int32)) 8 r0 3 (0 : Int32)) 8 r0 4 (0 : Int32)) 8 r0 5 (0 : Int32)) 17 r1 9 r0 (0 : Int32).toNatClampNeg (0 : Int32).toNatClampNeg (14 : Int32).toNatClampNeg)) rfl (by decide) ?_
  exact S_rv 0 (20, [.inr (8, r0), .inr (12, r1)], [], (hcp (hsI (hsI (hsI (hsI h 8 r0 2 (0 : Int32)) 8 r0 3 (0 : Int32)) 8 r0 4 (0 : Int32)) 8 r0 5 (0 : Int32)) 17 r1 9 r0 (0 : Int32).toNatClampNeg (0 : Int32).toNatClampNeg (14 : Int32).toNatClampNeg)) rfl rfl
theorem sb_X11_room_39  (rc : Int32 → AH → Option (Unit × AH)) (x2 : Int32) (hrc : ∀ (x2 : Int32) (h : AH), Sim PP (6) k_X11_room (39, [.inr (0, 0), av0, .inl (.int x2)], [], h) (rc x2 h) (fE PP (6) k_X11_room 50 (fun v => [.inr (0, 0), av0, av0])))  (h : AH) : Sim PP (6) k_X11_room (39, [.inr (0, 0), av0, .inl (.int x2)], [], h) (b_X11_room_39 rc x2 h) (fE PP (6) k_X11_room 50 (fun v => [.inr (0, 0), av0, av0])) := by
  unfold b_X11_room_39
  refine S_br 3 50 42 [.inr (0, 0), av0, .inl (.int x2)] [] h rfl (fun _ => ?_) (fun _ => ?_)
  · exact S_ex () (fun v => [.inr (0, 0), av0, av0]) rfl
  · refine S_grd 4 (46, [.inr (0, 0), av0, .inl (.int x2)], [.inr (8, (x2.toNatClampNeg))], h) rfl (fun _ => ?_)
    refine S_blk 4 (39, [.inr (0, 0), av0, .inl (.int (x2 + (1 : Int32)))], [], (hsI h 8 (x2.toNatClampNeg) 6 (0 : Int32))) rfl ?_
    refine S_nrm [.inr (0, 0), av0, .inl (.int (x2 + (1 : Int32)))] rfl ?_
    exact hrc (x2 + (1 : Int32)) (hsI h 8 (x2.toNatClampNeg) 6 (0 : Int32))
theorem sl_X11_room_39     : ∀ (F : Nat) (x2 : Int32) (h : AH), Sim PP (6) k_X11_room (39, [.inr (0, 0), av0, .inl (.int x2)], [], h) (l_X11_room_39 F x2 h) (fE PP (6) k_X11_room 50 (fun v => [.inr (0, 0), av0, av0])) := by
  intro F
  induction F with
  | zero => intro x2 h; exact S_none
  | succ F ih => intro x2 h; exact sb_X11_room_39 (l_X11_room_39 F) x2 ih h
theorem sc_X11_room_50      (h : AH) : Sim PP (6) k_X11_room (50, [.inr (0, 0), av0, av0], [], h) (c_X11_room_50   h) fI := by
  unfold c_X11_room_50
  exact S_ri 3 (53, [.inr (0, 0), av0, av0], [.inl (.int (h.1 12 0 5))], h) rfl rfl
theorem s_X11_room (x1 : Int32) (h : AH) : Sim PP (6) k_X11_room (0, [.inr (0, 0), .inl (.int x1), av0], [], h) (f_X11_room x1 h) fI := by
  unfold f_X11_room
  refine S_di 1 1 133 0 [.inr (0, 0), .inl (.int x1), av0] [.inl (.int x1)] [.inl (.int x1)] [.inr (0, 0), .inl (.int x1), av0] [] h rfl rfl pp_133 (by decide) (s_X11_isText x1 h) (fun y1 h2 => ?_)
  refine S_br 1 3 5 [.inr (0, 0), .inl (.int x1), av0] [] h2 rfl (fun _ => ?_) (fun _ => ?_)
  · exact S_ri 1 (4, [.inr (0, 0), .inl (.int x1), av0], [.inl (.int (-1 : Int32))], h2) rfl rfl
  · refine S_grd 4 (9, [.inr (0, 0), .inl (.int x1), av0], [.inr (5, (x1.toNatClampNeg))], h2) rfl (fun _ => ?_)
    refine S_di 0 9 67 0 [.inr (0, 0), .inl (.int x1), av0] [.inr (5, (x1.toNatClampNeg))] [.inr (5, (x1.toNatClampNeg))] [.inr (0, 0), .inl (.int x1), av0] [] h2 rfl rfl pp_67 (by decide) (s_X9_isMissing (x1.toNatClampNeg) h2) (fun y3 h4 => ?_)
    refine S_br 1 15 11 [.inr (0, 0), .inl (.int x1), av0] [] h4 rfl (fun _ => ?_) (fun _ => ?_)
    · refine S_grd 6 (21, [.inr (0, 0), .inl (.int x1), av0], [.inr (5, (x1.toNatClampNeg)), .inr (11, 0)], h4) rfl (fun _ => ?_)
      refine S_di 0 21 34 5 [.inr (0, 0), .inl (.int x1), av0] [.inr (5, (x1.toNatClampNeg)), .inr (11, 0)] [.inr (11, 0), .inr (5, (x1.toNatClampNeg)), av0] [.inr (0, 0), .inl (.int x1), av0] [] h4 rfl rfl pp_34 (by decide) (s_X4_faultOf (x1.toNatClampNeg) h4) (fun y5 h6 => ?_)
      refine S_br 2 26 24 [.inr (0, 0), .inl (.int x1), av0] [] h6 rfl (fun _ => ?_) (fun _ => ?_)
      · refine S_dv 5 31 46 0 [.inr (0, 0), .inl (.int x1), av0] [.inr (12, 1), .inr (12, 0)] [.inr (12, 0), .inr (12, 1)] [.inr (0, 0), .inl (.int x1), av0] [] h6 rfl rfl pp_46 (by decide) (s_X6_become 0 1 h6) (fun _ h8 => ?_)
        refine S_dv 4 36 54 0 [.inr (0, 0), .inl (.int x1), av0] [.inr (12, 0), .inr (8, 3)] [.inr (8, 3), .inr (12, 0)] [.inr (0, 0), .inl (.int x1), av0] [] h8 rfl rfl pp_54 (by decide) (s_X7_renew 3 0 h8) (fun _ h10 => ?_)
        refine S_blk 2 (39, [.inr (0, 0), .inl (.int x1), .inl (.int (0 : Int32))], [], h10) rfl ?_
        refine S_nrm [.inr (0, 0), av0, .inl (.int (0 : Int32))] rfl ?_
        refine S_lp 50 (fun v => [.inr (0, 0), av0, av0]) (sl_X11_room_39  FU (0 : Int32) h10) (fun v h => ?_)
        exact sc_X11_room_50 h
      · exact S_ri 1 (25, [.inr (0, 0), .inl (.int x1), av0], [.inl (.int (-4 : Int32))], h6) rfl rfl
    · refine S_di 2 13 131 0 [.inr (0, 0), .inl (.int x1), av0] [.inl (.int (1 : Int32)), .inr (0, 0)] [.inr (0, 0), .inl (.int (1 : Int32))] [.inr (0, 0), .inl (.int x1), av0] [] h4 rfl rfl pp_131 (by decide) (s_X11_refuse (1 : Int32) h4) (fun y11 h12 => ?_)
      exact S_ri 0 (14, [.inr (0, 0), .inl (.int x1), av0], [.inl (.int y11)], h12) rfl rfl
theorem sb_X12_room_31  (rc : Int32 → AH → Option (Unit × AH)) (x2 : Int32) (hrc : ∀ (x2 : Int32) (h : AH), Sim PP (4) k_X12_room (31, [.inr (34, 0), av0, .inl (.int x2)], [], h) (rc x2 h) (fE PP (4) k_X12_room 45 (fun v => [.inr (34, 0), av0, av0])))  (h : AH) : Sim PP (4) k_X12_room (31, [.inr (34, 0), av0, .inl (.int x2)], [], h) (b_X12_room_31 rc x2 h) (fE PP (4) k_X12_room 45 (fun v => [.inr (34, 0), av0, av0])) := by
  unfold b_X12_room_31
  refine S_br 4 45 35 [.inr (34, 0), av0, .inl (.int x2)] [] h rfl (fun _ => ?_) (fun _ => ?_)
  · exact S_ex () (fun v => [.inr (34, 0), av0, av0]) rfl
  · refine S_grd 7 (42, [.inr (34, 0), av0, .inl (.int x2)], [.inl (.int (h.1 45 0 x2.toNatClampNeg)), .inl (.int x2), .inr (41, 0)], h) rfl (fun _ => ?_)
    refine S_grd 1 (43, [.inr (34, 0), av0, .inl (.int x2)], [], (hsI h 41 0 x2.toNatClampNeg (h.1 45 0 x2.toNatClampNeg))) rfl (fun _ => ?_)
    refine S_blk 2 (31, [.inr (34, 0), av0, .inl (.int (x2 + (1 : Int32)))], [], (hsI h 41 0 x2.toNatClampNeg (h.1 45 0 x2.toNatClampNeg))) rfl ?_
    refine S_nrm [.inr (34, 0), av0, .inl (.int (x2 + (1 : Int32)))] rfl ?_
    exact hrc (x2 + (1 : Int32)) (hsI h 41 0 x2.toNatClampNeg (h.1 45 0 x2.toNatClampNeg))
theorem sl_X12_room_31     : ∀ (F : Nat) (x2 : Int32) (h : AH), Sim PP (4) k_X12_room (31, [.inr (34, 0), av0, .inl (.int x2)], [], h) (l_X12_room_31 F x2 h) (fE PP (4) k_X12_room 45 (fun v => [.inr (34, 0), av0, av0])) := by
  intro F
  induction F with
  | zero => intro x2 h; exact S_none
  | succ F ih => intro x2 h; exact sb_X12_room_31 (l_X12_room_31 F) x2 ih h
theorem sb_X12_room_47  (rc : Int32 → AH → Option (Unit × AH)) (x2 : Int32) (hrc : ∀ (x2 : Int32) (h : AH), Sim PP (4) k_X12_room (47, [.inr (34, 0), av0, .inl (.int x2)], [], h) (rc x2 h) (fE PP (4) k_X12_room 77 (fun v => [.inr (34, 0), av0, av0])))  (h : AH) : Sim PP (4) k_X12_room (47, [.inr (34, 0), av0, .inl (.int x2)], [], h) (b_X12_room_47 rc x2 h) (fE PP (4) k_X12_room 77 (fun v => [.inr (34, 0), av0, av0])) := by
  unfold b_X12_room_47
  refine S_br 4 77 51 [.inr (34, 0), av0, .inl (.int x2)] [] h rfl (fun _ => ?_) (fun _ => ?_)
  · exact S_ex () (fun v => [.inr (34, 0), av0, av0]) rfl
  · refine S_grd 7 (58, [.inr (34, 0), av0, .inl (.int x2)], [.inl (.int (h.1 46 0 x2.toNatClampNeg)), .inl (.int x2), .inr (42, 0)], h) rfl (fun _ => ?_)
    refine S_grd 1 (59, [.inr (34, 0), av0, .inl (.int x2)], [], (hsI h 42 0 x2.toNatClampNeg (h.1 46 0 x2.toNatClampNeg))) rfl (fun _ => ?_)
    refine S_grd 7 (66, [.inr (34, 0), av0, .inl (.int x2)], [.inl (.int ((hsI h 42 0 x2.toNatClampNeg (h.1 46 0 x2.toNatClampNeg)).1 47 0 x2.toNatClampNeg)), .inl (.int x2), .inr (43, 0)], (hsI h 42 0 x2.toNatClampNeg (h.1 46 0 x2.toNatClampNeg))) rfl (fun _ => ?_)
    refine S_grd 1 (67, [.inr (34, 0), av0, .inl (.int x2)], [], (hsI (hsI h 42 0 x2.toNatClampNeg (h.1 46 0 x2.toNatClampNeg)) 43 0 x2.toNatClampNeg ((hsI h 42 0 x2.toNatClampNeg (h.1 46 0 x2.toNatClampNeg)).1 47 0 x2.toNatClampNeg))) rfl (fun _ => ?_)
    refine S_grd 7 (74, [.inr (34, 0), av0, .inl (.int x2)], [.inl (.int ((hsI (hsI h 42 0 x2.toNatClampNeg (h.1 46 0 x2.toNatClampNeg)) 43 0 x2.toNatClampNeg ((hsI h 42 0 x2.toNatClampNeg (h.1 46 0 x2.toNatClampNeg)).1 47 0 x2.toNatClampNeg)).1 48 0 x2.toNatClampNeg)), .inl (.int x2), .inr (44, 0)], (hsI (hsI h 42 0 x2.toNatClampNeg (h.1 46 0 x2.toNatClampNeg)) 43 0 x2.toNatClampNeg ((hsI h 42 0 x2.toNatClampNeg (h.1 46 0 x2.toNatClampNeg)).1 47 0 x2.toNatClampNeg))) rfl (fun _ => ?_)
    refine S_grd 1 (75, [.inr (34, 0), av0, .inl (.int x2)], [], (hsI (hsI (hsI h 42 0 x2.toNatClampNeg (h.1 46 0 x2.toNatClampNeg)) 43 0 x2.toNatClampNeg ((hsI h 42 0 x2.toNatClampNeg (h.1 46 0 x2.toNatClampNeg)).1 47 0 x2.toNatClampNeg)) 44 0 x2.toNatClampNeg ((hsI (hsI h 42 0 x2.toNatClampNeg (h.1 46 0 x2.toNatClampNeg)) 43 0 x2.toNatClampNeg ((hsI h 42 0 x2.toNatClampNeg (h.1 46 0 x2.toNatClampNeg)).1 47 0 x2.toNatClampNeg)).1 48 0 x2.toNatClampNeg))) rfl (fun _ => ?_)
    refine S_blk 2 (47, [.inr (34, 0), av0, .inl (.int (x2 + (1 : Int32)))], [], (hsI (hsI (hsI h 42 0 x2.toNatClampNeg (h.1 46 0 x2.toNatClampNeg)) 43 0 x2.toNatClampNeg ((hsI h 42 0 x2.toNatClampNeg (h.1 46 0 x2.toNatClampNeg)).1 47 0 x2.toNatClampNeg)) 44 0 x2.toNatClampNeg ((hsI (hsI h 42 0 x2.toNatClampNeg (h.1 46 0 x2.toNatClampNeg)) 43 0 x2.toNatClampNeg ((hsI h 42 0 x2.toNatClampNeg (h.1 46 0 x2.toNatClampNeg)).1 47 0 x2.toNatClampNeg)).1 48 0 x2.toNatClampNeg))) rfl ?_
    refine S_nrm [.inr (34, 0), av0, .inl (.int (x2 + (1 : Int32)))] rfl ?_
    exact hrc (x2 + (1 : Int32)) (hsI (hsI (hsI h 42 0 x2.toNatClampNeg (h.1 46 0 x2.toNatClampNeg)) 43 0 x2.toNatClampNeg ((hsI h 42 0 x2.toNatClampNeg (h.1 46 0 x2.toNatClampNeg)).1 47 0 x2.toNatClampNeg)) 44 0 x2.toNatClampNeg ((hsI (hsI h 42 0 x2.toNatClampNeg (h.1 46 0 x2.toNatClampNeg)) 43 0 x2.toNatClampNeg ((hsI h 42 0 x2.toNatClampNeg (h.1 46 0 x2.toNatClampNeg)).1 47 0 x2.toNatClampNeg)).1 48 0 x2.toNatClampNeg))
theorem sl_X12_room_47     : ∀ (F : Nat) (x2 : Int32) (h : AH), Sim PP (4) k_X12_room (47, [.inr (34, 0), av0, .inl (.int x2)], [], h) (l_X12_room_47 F x2 h) (fE PP (4) k_X12_room 77 (fun v => [.inr (34, 0), av0, av0])) := by
  intro F
  induction F with
  | zero => intro x2 h; exact S_none
  | succ F ih => intro x2 h; exact sb_X12_room_47 (l_X12_room_47 F) x2 ih h
theorem sb_X12_room_91  (rc : Int32 → AH → Option (Unit × AH)) (x2 : Int32) (hrc : ∀ (x2 : Int32) (h : AH), Sim PP (4) k_X12_room (91, [.inr (34, 0), av0, .inl (.int x2)], [], h) (rc x2 h) (fE PP (4) k_X12_room 101 (fun v => [.inr (34, 0), av0, av0])))  (h : AH) : Sim PP (4) k_X12_room (91, [.inr (34, 0), av0, .inl (.int x2)], [], h) (b_X12_room_91 rc x2 h) (fE PP (4) k_X12_room 101 (fun v => [.inr (34, 0), av0, av0])) := by
  unfold b_X12_room_91
  refine S_br 3 101 94 [.inr (34, 0), av0, .inl (.int x2)] [] h rfl (fun _ => ?_) (fun _ => ?_)
  · exact S_ex () (fun v => [.inr (34, 0), av0, av0]) rfl
  · refine S_grd 5 (99, [.inr (34, 0), av0, .inl (.int x2)], [], (hsI h 50 0 x2.toNatClampNeg (zn (0 : Int32)))) rfl (fun _ => ?_)
    refine S_blk 2 (91, [.inr (34, 0), av0, .inl (.int (x2 + (1 : Int32)))], [], (hsI h 50 0 x2.toNatClampNeg (zn (0 : Int32)))) rfl ?_
    refine S_nrm [.inr (34, 0), av0, .inl (.int (x2 + (1 : Int32)))] rfl ?_
    exact hrc (x2 + (1 : Int32)) (hsI h 50 0 x2.toNatClampNeg (zn (0 : Int32)))
theorem sl_X12_room_91     : ∀ (F : Nat) (x2 : Int32) (h : AH), Sim PP (4) k_X12_room (91, [.inr (34, 0), av0, .inl (.int x2)], [], h) (l_X12_room_91 F x2 h) (fE PP (4) k_X12_room 101 (fun v => [.inr (34, 0), av0, av0])) := by
  intro F
  induction F with
  | zero => intro x2 h; exact S_none
  | succ F ih => intro x2 h; exact sb_X12_room_91 (l_X12_room_91 F) x2 ih h
theorem sc_X12_room_101      (h : AH) : Sim PP (4) k_X12_room (101, [.inr (34, 0), av0, av0], [], h) (c_X12_room_101   h) fI := by
  unfold c_X12_room_101
  exact S_ri 2 (103, [.inr (34, 0), av0, av0], [.inl (.int (h.1 34 0 10))], h) rfl rfl
theorem sc_X12_room_77      (h : AH) : Sim PP (4) k_X12_room (77, [.inr (34, 0), av0, av0], [], h) (c_X12_room_77   h) fI := by
  unfold c_X12_room_77
  refine S_blk 14 (91, [.inr (34, 0), av0, .inl (.int (0 : Int32))], [], (hsI (hsI (hsI (hsI h 34 0 16 (0 : Int32)) 34 0 17 (0 : Int32)) 34 0 18 (0 : Int32)) 34 0 27 (0 : Int32))) rfl ?_
  refine S_nrm [.inr (34, 0), av0, .inl (.int (0 : Int32))] rfl ?_
  refine S_lp 101 (fun v => [.inr (34, 0), av0, av0]) (sl_X12_room_91  FU (0 : Int32) (hsI (hsI (hsI (hsI h 34 0 16 (0 : Int32)) 34 0 17 (0 : Int32)) 34 0 18 (0 : Int32)) 34 0 27 (0 : Int32))) (fun v h => ?_)
  exact sc_X12_room_101 h
theorem sc_X12_room_45      (h : AH) : Sim PP (4) k_X12_room (45, [.inr (34, 0), av0, av0], [], h) (c_X12_room_45   h) fI := by
  unfold c_X12_room_45
  refine S_blk 2 (47, [.inr (34, 0), av0, .inl (.int (0 : Int32))], [], h) rfl ?_
  refine S_nrm [.inr (34, 0), av0, .inl (.int (0 : Int32))] rfl ?_
  refine S_lp 77 (fun v => [.inr (34, 0), av0, av0]) (sl_X12_room_47  FU (0 : Int32) h) (fun v h => ?_)
  exact sc_X12_room_77 h
theorem s_X12_room (x1 : Int32) (h : AH) : Sim PP (4) k_X12_room (0, [.inr (34, 0), .inl (.int x1), av0], [], h) (f_X12_room x1 h) fI := by
  unfold f_X12_room
  refine S_di 1 1 175 1 [.inr (34, 0), .inl (.int x1), av0] [.inl (.int x1)] [.inl (.int x1)] [.inr (34, 0), .inl (.int x1), av0] [] h rfl rfl pp_175 (by decide) (s_X12_isText x1 h) (fun y1 h2 => ?_)
  refine S_br 1 3 5 [.inr (34, 0), .inl (.int x1), av0] [] h2 rfl (fun _ => ?_) (fun _ => ?_)
  · exact S_ri 1 (4, [.inr (34, 0), .inl (.int x1), av0], [.inl (.int (-1 : Int32))], h2) rfl rfl
  · refine S_grd 4 (9, [.inr (34, 0), .inl (.int x1), av0], [.inl (.int (h2.1 39 0 x1.toNatClampNeg))], h2) rfl (fun _ => ?_)
    refine S_br 1 14 10 [.inr (34, 0), .inl (.int x1), av0] [] h2 rfl (fun _ => ?_) (fun _ => ?_)
    · refine S_di 2 16 186 3 [.inr (34, 0), .inl (.int x1), av0] [.inl (.int x1), .inr (34, 0)] [.inr (34, 0), .inl (.int x1), av0] [.inr (34, 0), .inl (.int x1), av0] [] h2 rfl rfl pp_186 (by decide) (s_X12_faultOf x1 h2) (fun y3 h4 => ?_)
      refine S_br 2 21 19 [.inr (34, 0), .inl (.int x1), av0] [] h4 rfl (fun _ => ?_) (fun _ => ?_)
      · refine S_blk 10 (31, [.inr (34, 0), .inl (.int x1), .inl (.int (0 : Int32))], [], (hsI (hsI h4 34 0 10 (h4.1 34 0 21)) 34 0 11 ((hsI h4 34 0 10 (h4.1 34 0 21)).1 34 0 22))) rfl ?_
        refine S_nrm [.inr (34, 0), av0, .inl (.int (0 : Int32))] rfl ?_
        refine S_lp 45 (fun v => [.inr (34, 0), av0, av0]) (sl_X12_room_31  FU (0 : Int32) (hsI (hsI h4 34 0 10 (h4.1 34 0 21)) 34 0 11 ((hsI h4 34 0 10 (h4.1 34 0 21)).1 34 0 22))) (fun v h => ?_)
        exact sc_X12_room_45 h
      · exact S_ri 1 (20, [.inr (34, 0), .inl (.int x1), av0], [.inl (.int (-4 : Int32))], h4) rfl rfl
    · refine S_di 2 12 159 0 [.inr (34, 0), .inl (.int x1), av0] [.inl (.int (1 : Int32)), .inr (34, 0)] [.inr (34, 0), .inl (.int (1 : Int32))] [.inr (34, 0), .inl (.int x1), av0] [] h2 rfl rfl pp_159 (by decide) (s_X12_meets (1 : Int32) h2) (fun y5 h6 => ?_)
      exact S_ri 0 (13, [.inr (34, 0), .inl (.int x1), av0], [.inl (.int y5)], h6) rfl rfl
theorem s_X11_isClaim (x1 : Int32) (h : AH) : Sim PP (0) k_X11_isClaim (0, [.inr (0, 0), .inl (.int x1)], [], h) (f_X11_isClaim x1 h) fI := by
  unfold f_X11_isClaim
  refine S_br 2 9 2 [.inr (0, 0), .inl (.int x1)] [] h rfl (fun _ => ?_) (fun _ => ?_)
  · exact S_ri 1 (10, [.inr (0, 0), .inl (.int x1)], [.inl (.int (0 : Int32))], h) rfl rfl
  · refine S_br 5 9 7 [.inr (0, 0), .inl (.int x1)] [] h rfl (fun _ => ?_) (fun _ => ?_)
    · exact S_ri 1 (10, [.inr (0, 0), .inl (.int x1)], [.inl (.int (0 : Int32))], h) rfl rfl
    · exact S_ri 2 (10, [.inr (0, 0), .inl (.int x1)], [.inl (.int (1 : Int32))], h) rfl rfl
theorem sb_X6_reasonsWith_4  (rc : Nat → Int32 → Int32 → Int32 → AH → Option (Int32 × AH)) (r0 : Nat) (x1 : Int32) (x2 : Int32) (x3 : Int32) (hrc : ∀ (x2 : Int32) (x3 : Int32) (h : AH), Sim PP (1) k_X6_reasonsWith (4, [.inr (12, r0), .inl (.int x1), .inl (.int x2), .inl (.int x3)], [], h) (rc r0 x1 x2 x3 h) (fE PP (1) k_X6_reasonsWith 25 (fun v => [av0, av0, .inl (.int v), av0])))  (h : AH) : Sim PP (1) k_X6_reasonsWith (4, [.inr (12, r0), .inl (.int x1), .inl (.int x2), .inl (.int x3)], [], h) (b_X6_reasonsWith_4 rc r0 x1 x2 x3 h) (fE PP (1) k_X6_reasonsWith 25 (fun v => [av0, av0, .inl (.int v), av0])) := by
  unfold b_X6_reasonsWith_4
  refine S_br 4 25 8 [.inr (12, r0), .inl (.int x1), .inl (.int x2), .inl (.int x3)] [] h rfl (fun _ => ?_) (fun _ => ?_)
  · exact S_ex x2 (fun v => [av0, av0, .inl (.int v), av0]) rfl
  · refine S_grd 5 (13, [.inr (12, r0), .inl (.int x1), .inl (.int x2), .inl (.int x3)], [.inl (.int (h.1 16 r0 x3.toNatClampNeg)), .inl (.int x2)], h) rfl (fun _ => ?_)
    refine S_di 1 14 138 0 [.inr (12, r0), .inl (.int x1), .inl (.int x2), .inl (.int x3)] [.inl (.int x1), .inl (.int (h.1 16 r0 x3.toNatClampNeg)), .inl (.int x2)] [.inl (.int (h.1 16 r0 x3.toNatClampNeg)), .inl (.int x1)] [.inr (12, r0), .inl (.int x1), .inl (.int x2), .inl (.int x3)] [.inl (.int x2)] h rfl rfl pp_138 (by decide) (s_X11_has (h.1 16 r0 x3.toNatClampNeg) x1 h) (fun y1 h2 => ?_)
    refine S_br 1 20 16 [.inr (12, r0), .inl (.int x1), .inl (.int x2), .inl (.int x3)] [.inl (.int x2)] h2 rfl (fun _ => ?_) (fun _ => ?_)
    · refine S_blk 5 (4, [.inr (12, r0), .inl (.int x1), .inl (.int (x2 ||| (0 : Int32))), .inl (.int (x3 + (1 : Int32)))], [], h2) rfl ?_
      refine S_nrm [.inr (12, r0), .inl (.int x1), .inl (.int (x2 ||| (0 : Int32))), .inl (.int (x3 + (1 : Int32)))] rfl ?_
      exact hrc (x2 ||| (0 : Int32)) (x3 + (1 : Int32)) h2
    · refine S_blk 8 (4, [.inr (12, r0), .inl (.int x1), .inl (.int (x2 ||| ((1 : Int32) <<< (x3 &&& 31)))), .inl (.int (x3 + (1 : Int32)))], [], h2) rfl ?_
      refine S_nrm [.inr (12, r0), .inl (.int x1), .inl (.int (x2 ||| ((1 : Int32) <<< (x3 &&& 31)))), .inl (.int (x3 + (1 : Int32)))] rfl ?_
      exact hrc (x2 ||| ((1 : Int32) <<< (x3 &&& 31))) (x3 + (1 : Int32)) h2
theorem sl_X6_reasonsWith_4    (r0 : Nat) (x1 : Int32) : ∀ (F : Nat) (x2 : Int32) (x3 : Int32) (h : AH), Sim PP (1) k_X6_reasonsWith (4, [.inr (12, r0), .inl (.int x1), .inl (.int x2), .inl (.int x3)], [], h) (l_X6_reasonsWith_4 F r0 x1 x2 x3 h) (fE PP (1) k_X6_reasonsWith 25 (fun v => [av0, av0, .inl (.int v), av0])) := by
  intro F
  induction F with
  | zero => intro x2 x3 h; exact S_none
  | succ F ih => intro x2 x3 h; exact sb_X6_reasonsWith_4 (l_X6_reasonsWith_4 F) r0 x1 x2 x3 ih h
theorem sc_X6_reasonsWith_25    (x2 : Int32)  (h : AH) : Sim PP (1) k_X6_reasonsWith (25, [av0, av0, .inl (.int x2), av0], [], h) (c_X6_reasonsWith_25  x2 h) fI := by
  unfold c_X6_reasonsWith_25
  exact S_ri 1 (26, [av0, av0, .inl (.int x2), av0], [.inl (.int x2)], h) rfl rfl
theorem s_X6_reasonsWith (r0 : Nat) (x1 : Int32) (h : AH) : Sim PP (1) k_X6_reasonsWith (0, [.inr (12, r0), .inl (.int x1), av0, av0], [], h) (f_X6_reasonsWith r0 x1 h) fI := by
  unfold f_X6_reasonsWith
  refine S_blk 4 (4, [.inr (12, r0), .inl (.int x1), .inl (.int (0 : Int32)), .inl (.int (0 : Int32))], [], h) rfl ?_
  refine S_nrm [.inr (12, r0), .inl (.int x1), .inl (.int (0 : Int32)), .inl (.int (0 : Int32))] rfl ?_
  refine S_lp 25 (fun v => [av0, av0, .inl (.int v), av0]) (sl_X6_reasonsWith_4 r0 x1 FU (0 : Int32) (0 : Int32) h) (fun v h => ?_)
  exact sc_X6_reasonsWith_25 v h
theorem sb_X0_standingBy_29  (rc : Int32 → Int32 → Int32 → Int32 → Int32 → Int32 → AH → Option (Int32 × AH)) (x1 : Int32) (x2 : Int32) (x3 : Int32) (x5 : Int32) (x6 : Int32) (x7 : Int32) (hrc : ∀ (x3 : Int32) (x7 : Int32) (h : AH), Sim PP (2) k_X0_standingBy (29, [.inr (18, 0), .inl (.int x1), .inl (.int x2), .inl (.int x3), av0, .inl (.int x5), .inl (.int x6), .inl (.int x7), av0], [], h) (rc x1 x2 x3 x5 x6 x7 h) (fE PP (2) k_X0_standingBy 72 (fun v => [.inr (18, 0), .inl (.int x1), .inl (.int x2), .inl (.int v), av0, .inl (.int x5), .inl (.int x6), av0, av0])))  (h : AH) : Sim PP (2) k_X0_standingBy (29, [.inr (18, 0), .inl (.int x1), .inl (.int x2), .inl (.int x3), av0, .inl (.int x5), .inl (.int x6), .inl (.int x7), av0], [], h) (b_X0_standingBy_29 rc x1 x2 x3 x5 x6 x7 h) (fE PP (2) k_X0_standingBy 72 (fun v => [.inr (18, 0), .inl (.int x1), .inl (.int x2), .inl (.int v), av0, .inl (.int x5), .inl (.int x6), av0, av0])) := by
  unfold b_X0_standingBy_29
  refine S_br 5 72 34 [.inr (18, 0), .inl (.int x1), .inl (.int x2), .inl (.int x3), av0, .inl (.int x5), .inl (.int x6), .inl (.int x7), av0] [] h rfl (fun _ => ?_) (fun _ => ?_)
  · exact S_ex x3 (fun v => [.inr (18, 0), .inl (.int x1), .inl (.int x2), .inl (.int v), av0, .inl (.int x5), .inl (.int x6), av0, av0]) rfl
  · refine S_di 2 36 138 0 [.inr (18, 0), .inl (.int x1), .inl (.int x2), .inl (.int x3), av0, .inl (.int x5), .inl (.int x6), .inl (.int x7), av0] [.inl (.int x7), .inl (.int x2)] [.inl (.int x2), .inl (.int x7)] [.inr (18, 0), .inl (.int x1), .inl (.int x2), .inl (.int x3), av0, .inl (.int x5), .inl (.int x6), .inl (.int x7), av0] [] h rfl rfl pp_138 (by decide) (s_X11_has x2 x7 h) (fun y1 h2 => ?_)
    refine S_br 1 50 38 [.inr (18, 0), .inl (.int x1), .inl (.int x2), .inl (.int x3), av0, .inl (.int x5), .inl (.int x6), .inl (.int x7), av0] [] h2 rfl (fun _ => ?_) (fun _ => ?_)
    · refine S_bt 5 (c := (0 : Int32) = 0) 67 55 [.inr (18, 0), .inl (.int x1), .inl (.int x2), .inl (.int x3), av0, .inl (.int x5), .inl (.int x6), .inl (.int x7), .inl (.int (0 : Int32))] [.inl (.int x3)] h2 rfl (by decide) ?_
      refine S_blk 5 (29, [.inr (18, 0), .inl (.int x1), .inl (.int x2), .inl (.int (x3 ||| (0 : Int32))), av0, .inl (.int x5), .inl (.int x6), .inl (.int (x7 + (1 : Int32))), .inl (.int (0 : Int32))], [], h2) rfl ?_
      refine S_nrm [.inr (18, 0), .inl (.int x1), .inl (.int x2), .inl (.int (x3 ||| (0 : Int32))), av0, .inl (.int x5), .inl (.int x6), .inl (.int (x7 + (1 : Int32))), av0] rfl ?_
      exact hrc (x3 ||| (0 : Int32)) (x7 + (1 : Int32)) h2
    · refine S_grd 5 (43, [.inr (18, 0), .inl (.int x1), .inl (.int x2), .inl (.int x3), av0, .inl (.int x5), .inl (.int x6), .inl (.int x7), av0], [.inl (.int (h2.1 16 0 x7.toNatClampNeg))], h2) rfl (fun _ => ?_)
      refine S_br 5 48 50 [.inr (18, 0), .inl (.int x1), .inl (.int x2), .inl (.int x3), av0, .inl (.int x5), .inl (.int x6), .inl (.int x7), av0] [] h2 rfl (fun _ => ?_) (fun _ => ?_)
      · refine S_bf 6 (c := (1 : Int32) = 0) 67 55 [.inr (18, 0), .inl (.int x1), .inl (.int x2), .inl (.int x3), av0, .inl (.int x5), .inl (.int x6), .inl (.int x7), .inl (.int (1 : Int32))] [.inl (.int x3)] h2 rfl (by decide) ?_
        refine S_grd 6 (61, [.inr (18, 0), .inl (.int x1), .inl (.int x2), .inl (.int x3), av0, .inl (.int x5), .inl (.int x6), .inl (.int x7), .inl (.int (1 : Int32))], [.inl (.int (h2.1 15 0 x7.toNatClampNeg)), .inl (.int (1 : Int32)), .inl (.int x3)], h2) rfl (fun _ => ?_)
        refine S_blk 10 (29, [.inr (18, 0), .inl (.int x1), .inl (.int x2), .inl (.int (x3 ||| (((1 : Int32) <<< ((h2.1 15 0 x7.toNatClampNeg) &&& 31)) &&& (x1 ^^^ (-1 : Int32))))), av0, .inl (.int x5), .inl (.int x6), .inl (.int (x7 + (1 : Int32))), .inl (.int (1 : Int32))], [], h2) rfl ?_
        refine S_nrm [.inr (18, 0), .inl (.int x1), .inl (.int x2), .inl (.int (x3 ||| (((1 : Int32) <<< ((h2.1 15 0 x7.toNatClampNeg) &&& 31)) &&& (x1 ^^^ (-1 : Int32))))), av0, .inl (.int x5), .inl (.int x6), .inl (.int (x7 + (1 : Int32))), av0] rfl ?_
        exact hrc (x3 ||| (((1 : Int32) <<< ((h2.1 15 0 x7.toNatClampNeg) &&& 31)) &&& (x1 ^^^ (-1 : Int32)))) (x7 + (1 : Int32)) h2
      · refine S_bt 5 (c := (0 : Int32) = 0) 67 55 [.inr (18, 0), .inl (.int x1), .inl (.int x2), .inl (.int x3), av0, .inl (.int x5), .inl (.int x6), .inl (.int x7), .inl (.int (0 : Int32))] [.inl (.int x3)] h2 rfl (by decide) ?_
        refine S_blk 5 (29, [.inr (18, 0), .inl (.int x1), .inl (.int x2), .inl (.int (x3 ||| (0 : Int32))), av0, .inl (.int x5), .inl (.int x6), .inl (.int (x7 + (1 : Int32))), .inl (.int (0 : Int32))], [], h2) rfl ?_
        refine S_nrm [.inr (18, 0), .inl (.int x1), .inl (.int x2), .inl (.int (x3 ||| (0 : Int32))), av0, .inl (.int x5), .inl (.int x6), .inl (.int (x7 + (1 : Int32))), av0] rfl ?_
        exact hrc (x3 ||| (0 : Int32)) (x7 + (1 : Int32)) h2
theorem sl_X0_standingBy_29    (x1 : Int32) (x2 : Int32) (x5 : Int32) (x6 : Int32) : ∀ (F : Nat) (x3 : Int32) (x7 : Int32) (h : AH), Sim PP (2) k_X0_standingBy (29, [.inr (18, 0), .inl (.int x1), .inl (.int x2), .inl (.int x3), av0, .inl (.int x5), .inl (.int x6), .inl (.int x7), av0], [], h) (l_X0_standingBy_29 F x1 x2 x3 x5 x6 x7 h) (fE PP (2) k_X0_standingBy 72 (fun v => [.inr (18, 0), .inl (.int x1), .inl (.int x2), .inl (.int v), av0, .inl (.int x5), .inl (.int x6), av0, av0])) := by
  intro F
  induction F with
  | zero => intro x3 x7 h; exact S_none
  | succ F ih => intro x3 x7 h; exact sb_X0_standingBy_29 (l_X0_standingBy_29 F) x1 x2 x3 x5 x6 x7 ih h
theorem sc_X0_standingBy_72  (rc : Int32 → Int32 → Int32 → Int32 → Int32 → AH → Option (Int32 × AH))  (x1 : Int32) (x2 : Int32) (x3 : Int32) (x5 : Int32) (x6 : Int32) (hrc : ∀ (x3 : Int32) (x4 : Int32) (x5 : Int32) (h : AH), Sim PP (2) k_X0_standingBy (20, [.inr (18, 0), .inl (.int x1), .inl (.int x2), .inl (.int x3), .inl (.int x4), .inl (.int x5), av0, av0, av0], [], h) (rc x1 x2 x3 x4 x5 h) (fE PP (2) k_X0_standingBy 81 (fun v => [av0, av0, av0, .inl (.int v), av0, av0, av0, av0, av0]))) (h : AH) : Sim PP (2) k_X0_standingBy (72, [.inr (18, 0), .inl (.int x1), .inl (.int x2), .inl (.int x3), av0, .inl (.int x5), .inl (.int x6), av0, av0], [], h) (c_X0_standingBy_72 rc x1 x2 x3 x5 x6 h) (fE PP (2) k_X0_standingBy 81 (fun v => [av0, av0, av0, .inl (.int v), av0, av0, av0, av0, av0])) := by
  unfold c_X0_standingBy_72
  refine S_br 3 77 75 [.inr (18, 0), .inl (.int x1), .inl (.int x2), .inl (.int x3), av0, .inl (.int x5), .inl (.int x6), av0, av0] [] h rfl (fun _ => ?_) (fun _ => ?_)
  · refine S_blk 4 (20, [.inr (18, 0), .inl (.int x1), .inl (.int x2), .inl (.int x3), .inl (.int (0 : Int32)), .inl (.int (x5 + (1 : Int32))), .inl (.int x6), av0, av0], [], h) rfl ?_
    refine S_nrm [.inr (18, 0), .inl (.int x1), .inl (.int x2), .inl (.int x3), .inl (.int (0 : Int32)), .inl (.int (x5 + (1 : Int32))), av0, av0, av0] rfl ?_
    exact hrc x3 (0 : Int32) (x5 + (1 : Int32)) h
  · refine S_blk 5 (20, [.inr (18, 0), .inl (.int x1), .inl (.int x2), .inl (.int x3), .inl (.int (1 : Int32)), .inl (.int (x5 + (1 : Int32))), .inl (.int x6), av0, av0], [], h) rfl ?_
    refine S_nrm [.inr (18, 0), .inl (.int x1), .inl (.int x2), .inl (.int x3), .inl (.int (1 : Int32)), .inl (.int (x5 + (1 : Int32))), av0, av0, av0] rfl ?_
    exact hrc x3 (1 : Int32) (x5 + (1 : Int32)) h
theorem sb_X0_standingBy_20  (rc : Int32 → Int32 → Int32 → Int32 → Int32 → AH → Option (Int32 × AH)) (x1 : Int32) (x2 : Int32) (x3 : Int32) (x4 : Int32) (x5 : Int32) (hrc : ∀ (x3 : Int32) (x4 : Int32) (x5 : Int32) (h : AH), Sim PP (2) k_X0_standingBy (20, [.inr (18, 0), .inl (.int x1), .inl (.int x2), .inl (.int x3), .inl (.int x4), .inl (.int x5), av0, av0, av0], [], h) (rc x1 x2 x3 x4 x5 h) (fE PP (2) k_X0_standingBy 81 (fun v => [av0, av0, av0, .inl (.int v), av0, av0, av0, av0, av0])))  (h : AH) : Sim PP (2) k_X0_standingBy (20, [.inr (18, 0), .inl (.int x1), .inl (.int x2), .inl (.int x3), .inl (.int x4), .inl (.int x5), av0, av0, av0], [], h) (b_X0_standingBy_20 rc x1 x2 x3 x4 x5 h) (fE PP (2) k_X0_standingBy 81 (fun v => [av0, av0, av0, .inl (.int v), av0, av0, av0, av0, av0])) := by
  unfold b_X0_standingBy_20
  refine S_br 2 81 22 [.inr (18, 0), .inl (.int x1), .inl (.int x2), .inl (.int x3), .inl (.int x4), .inl (.int x5), av0, av0, av0] [] h rfl (fun _ => ?_) (fun _ => ?_)
  · exact S_ex x3 (fun v => [av0, av0, av0, .inl (.int v), av0, av0, av0, av0, av0]) rfl
  · refine S_br 3 81 25 [.inr (18, 0), .inl (.int x1), .inl (.int x2), .inl (.int x3), .inl (.int x4), .inl (.int x5), av0, av0, av0] [] h rfl (fun _ => ?_) (fun _ => ?_)
    · exact S_ex x3 (fun v => [av0, av0, av0, .inl (.int v), av0, av0, av0, av0, av0]) rfl
    · refine S_blk 4 (29, [.inr (18, 0), .inl (.int x1), .inl (.int x2), .inl (.int x3), .inl (.int x4), .inl (.int x5), .inl (.int x3), .inl (.int (0 : Int32)), av0], [], h) rfl ?_
      refine S_nrm [.inr (18, 0), .inl (.int x1), .inl (.int x2), .inl (.int x3), av0, .inl (.int x5), .inl (.int x3), .inl (.int (0 : Int32)), av0] rfl ?_
      refine S_lp 72 (fun v => [.inr (18, 0), .inl (.int x1), .inl (.int x2), .inl (.int v), av0, .inl (.int x5), .inl (.int x3), av0, av0]) (sl_X0_standingBy_29 x1 x2 x5 x3 FU x3 (0 : Int32) h) (fun v h => ?_)
      exact sc_X0_standingBy_72 rc x1 x2 v x5 x3 hrc h
theorem sl_X0_standingBy_20    (x1 : Int32) (x2 : Int32) : ∀ (F : Nat) (x3 : Int32) (x4 : Int32) (x5 : Int32) (h : AH), Sim PP (2) k_X0_standingBy (20, [.inr (18, 0), .inl (.int x1), .inl (.int x2), .inl (.int x3), .inl (.int x4), .inl (.int x5), av0, av0, av0], [], h) (l_X0_standingBy_20 F x1 x2 x3 x4 x5 h) (fE PP (2) k_X0_standingBy 81 (fun v => [av0, av0, av0, .inl (.int v), av0, av0, av0, av0, av0])) := by
  intro F
  induction F with
  | zero => intro x3 x4 x5 h; exact S_none
  | succ F ih => intro x3 x4 x5 h; exact sb_X0_standingBy_20 (l_X0_standingBy_20 F) x1 x2 x3 x4 x5 ih h
theorem sc_X0_standingBy_81    (x3 : Int32)  (h : AH) : Sim PP (2) k_X0_standingBy (81, [av0, av0, av0, .inl (.int x3), av0, av0, av0, av0, av0], [], h) (c_X0_standingBy_81  x3 h) fI := by
  unfold c_X0_standingBy_81
  exact S_ri 1 (82, [av0, av0, av0, .inl (.int x3), av0, av0, av0, av0, av0], [.inl (.int x3)], h) rfl rfl
theorem s_X0_standingBy (x1 : Int32) (x2 : Int32) (h : AH) : Sim PP (2) k_X0_standingBy (0, [.inr (18, 0), .inl (.int x1), .inl (.int x2), av0, av0, av0, av0, av0, av0], [], h) (f_X0_standingBy x1 x2 h) fI := by
  unfold f_X0_standingBy
  refine S_di 3 3 51 1 [.inr (18, 0), .inl (.int x1), .inl (.int x2), av0, av0, av0, av0, av0, av0] [.inl (.int (1 : Int32)), .inr (12, 0)] [.inr (12, 0), .inl (.int (1 : Int32))] [.inr (18, 0), .inl (.int x1), .inl (.int x2), av0, av0, av0, av0, av0, av0] [] h rfl rfl pp_51 (by decide) (s_X6_bitsOf 0 (1 : Int32) h) (fun y1 h2 => ?_)
  refine S_di 3 7 51 1 [.inr (18, 0), .inl (.int x1), .inl (.int x2), av0, av0, av0, av0, av0, av0] [.inl (.int (2 : Int32)), .inr (12, 0), .inl (.int y1)] [.inr (12, 0), .inl (.int (2 : Int32))] [.inr (18, 0), .inl (.int x1), .inl (.int x2), av0, av0, av0, av0, av0, av0] [.inl (.int y1)] h2 rfl rfl pp_51 (by decide) (s_X6_bitsOf 0 (2 : Int32) h2) (fun y3 h4 => ?_)
  refine S_blk 12 (20, [.inr (18, 0), .inl (.int x1), .inl (.int x2), .inl (.int ((y1 &&& (y3 ^^^ (-1 : Int32))) &&& (x1 ^^^ (-1 : Int32)))), .inl (.int (1 : Int32)), .inl (.int (0 : Int32)), av0, av0, av0], [], h4) rfl ?_
  refine S_nrm [.inr (18, 0), .inl (.int x1), .inl (.int x2), .inl (.int ((y1 &&& (y3 ^^^ (-1 : Int32))) &&& (x1 ^^^ (-1 : Int32)))), .inl (.int (1 : Int32)), .inl (.int (0 : Int32)), av0, av0, av0] rfl ?_
  refine S_lp 81 (fun v => [av0, av0, av0, .inl (.int v), av0, av0, av0, av0, av0]) (sl_X0_standingBy_20 x1 x2 FU ((y1 &&& (y3 ^^^ (-1 : Int32))) &&& (x1 ^^^ (-1 : Int32))) (1 : Int32) (0 : Int32) h4) (fun v h => ?_)
  exact sc_X0_standingBy_81 v h
theorem s_X0_standing  (h : AH) : Sim PP (3) k_X0_standing (0, [.inr (18, 0)], [], h) (f_X0_standing  h) fI := by
  unfold f_X0_standing
  refine S_di 5 5 8 2 [.inr (18, 0)] [.inl (.int (-1 : Int32)), .inl (.int (h.1 8 3 3)), .inr (18, 0)] [.inr (18, 0), .inl (.int (h.1 8 3 3)), .inl (.int (-1 : Int32)), av0, av0, av0, av0, av0, av0] [.inr (18, 0)] [] h rfl rfl pp_8 (by decide) (s_X0_standingBy (h.1 8 3 3) (-1 : Int32) h) (fun y1 h2 => ?_)
  exact S_ri 0 (6, [.inr (18, 0)], [.inl (.int y1)], h2) rfl rfl
theorem s_X11_bit (x0 : Int32) (x1 : Int32) (h : AH) : Sim PP (0) k_X11_bit (0, [.inl (.int x0), .inl (.int x1)], [], h) (f_X11_bit x0 x1 h) fI := by
  unfold f_X11_bit
  exact S_ri 5 (5, [.inl (.int x0), .inl (.int x1)], [.inl (.int ((x0 >>> (x1 &&& 31)) &&& (1 : Int32)))], h) rfl rfl
theorem s_X11_factOfClaim (x1 : Int32) (x2 : Int32) (h : AH) : Sim PP (4) k_X11_factOfClaim (0, [.inr (0, 0), .inl (.int x1), .inl (.int x2)], [], h) (f_X11_factOfClaim x1 x2 h) fI := by
  unfold f_X11_factOfClaim
  refine S_blk 2 (if x2 = 0 then 2 else if x2 = 1 then 8 else if x2 = 2 then 13 else if x2 = 3 then 18 else 24, [.inr (0, 0), .inl (.int x1), .inl (.int x2)], [], h) rfl ?_
  refine S_ite (fun _ => ?_) (fun _ => ?_)
  · refine S_grd 5 (7, [.inr (0, 0), .inl (.int x1), .inl (.int x2)], [.inl (.int (h.1 13 0 x1.toNatClampNeg))], h) rfl (fun _ => ?_)
    exact S_ri 0 (7, [.inr (0, 0), .inl (.int x1), .inl (.int x2)], [.inl (.int (h.1 13 0 x1.toNatClampNeg))], h) rfl rfl
  · refine S_ite (fun _ => ?_) (fun _ => ?_)
    · refine S_di 3 11 52 0 [.inr (0, 0), .inl (.int x1), .inl (.int x2)] [.inl (.int x1), .inr (12, 0)] [.inr (12, 0), .inl (.int x1), av0, av0] [.inr (0, 0), .inl (.int x1), .inl (.int x2)] [] h rfl rfl pp_52 (by decide) (s_X6_reasonsFor 0 x1 h) (fun y1 h2 => ?_)
      exact S_ri 0 (12, [.inr (0, 0), .inl (.int x1), .inl (.int x2)], [.inl (.int y1)], h2) rfl rfl
    · refine S_ite (fun _ => ?_) (fun _ => ?_)
      · refine S_di 3 16 53 1 [.inr (0, 0), .inl (.int x1), .inl (.int x2)] [.inl (.int x1), .inr (12, 0)] [.inr (12, 0), .inl (.int x1), av0, av0] [.inr (0, 0), .inl (.int x1), .inl (.int x2)] [] h rfl rfl pp_53 (by decide) (s_X6_reasonsWith 0 x1 h) (fun y3 h4 => ?_)
        exact S_ri 0 (17, [.inr (0, 0), .inl (.int x1), .inl (.int x2)], [.inl (.int y3)], h4) rfl rfl
      · refine S_ite (fun _ => ?_) (fun _ => ?_)
        · refine S_di 2 20 7 3 [.inr (0, 0), .inl (.int x1), .inl (.int x2)] [.inr (18, 0)] [.inr (18, 0)] [.inr (0, 0), .inl (.int x1), .inl (.int x2)] [] h rfl rfl pp_7 (by decide) (s_X0_standing  h) (fun y5 h6 => ?_)
          refine S_di 1 22 139 0 [.inr (0, 0), .inl (.int x1), .inl (.int x2)] [.inl (.int x1), .inl (.int y5)] [.inl (.int y5), .inl (.int x1)] [.inr (0, 0), .inl (.int x1), .inl (.int x2)] [] h6 rfl rfl pp_139 (by decide) (s_X11_bit y5 x1 h6) (fun y7 h8 => ?_)
          exact S_ri 0 (23, [.inr (0, 0), .inl (.int x1), .inl (.int x2)], [.inl (.int y7)], h8) rfl rfl
        · refine S_di 4 28 139 0 [.inr (0, 0), .inl (.int x1), .inl (.int x2)] [.inl (.int x1), .inl (.int (h.1 8 3 3))] [.inl (.int (h.1 8 3 3)), .inl (.int x1)] [.inr (0, 0), .inl (.int x1), .inl (.int x2)] [] h rfl rfl pp_139 (by decide) (s_X11_bit (h.1 8 3 3) x1 h) (fun y9 h10 => ?_)
          exact S_ri 0 (29, [.inr (0, 0), .inl (.int x1), .inl (.int x2)], [.inl (.int y9)], h10) rfl rfl
theorem s_X11_claim (x1 : Int32) (x2 : Int32) (h : AH) : Sim PP (5) k_X11_claim (0, [.inr (0, 0), .inl (.int x1), .inl (.int x2)], [], h) (f_X11_claim x1 x2 h) fI := by
  unfold f_X11_claim
  refine S_di 2 2 136 0 [.inr (0, 0), .inl (.int x1), .inl (.int x2)] [.inl (.int x1), .inr (0, 0)] [.inr (0, 0), .inl (.int x1)] [.inr (0, 0), .inl (.int x1), .inl (.int x2)] [] h rfl rfl pp_136 (by decide) (s_X11_isClaim x1 h) (fun y1 h2 => ?_)
  refine S_br 1 9 4 [.inr (0, 0), .inl (.int x1), .inl (.int x2)] [] h2 rfl (fun _ => ?_) (fun _ => ?_)
  · exact S_ri 1 (10, [.inr (0, 0), .inl (.int x1), .inl (.int x2)], [.inl (.int (-1 : Int32))], h2) rfl rfl
  · refine S_br 2 9 6 [.inr (0, 0), .inl (.int x1), .inl (.int x2)] [] h2 rfl (fun _ => ?_) (fun _ => ?_)
    · exact S_ri 1 (10, [.inr (0, 0), .inl (.int x1), .inl (.int x2)], [.inl (.int (-1 : Int32))], h2) rfl rfl
    · refine S_br 3 11 9 [.inr (0, 0), .inl (.int x1), .inl (.int x2)] [] h2 rfl (fun _ => ?_) (fun _ => ?_)
      · refine S_di 4 15 143 4 [.inr (0, 0), .inl (.int x1), .inl (.int x2)] [.inl (.int x2), .inl (.int x1), .inr (0, 0), .inr (0, 0)] [.inr (0, 0), .inl (.int x1), .inl (.int x2)] [.inr (0, 0), .inl (.int x1), .inl (.int x2)] [.inr (0, 0)] h2 rfl rfl pp_143 (by decide) (s_X11_factOfClaim x1 x2 h2) (fun y3 h4 => ?_)
        exact S_ri 2 (18, [.inr (0, 0), .inl (.int x1), .inl (.int x2)], [.inl (.int (1 : Int32))], (hsI h4 0 0 14 y3)) rfl rfl
      · exact S_ri 1 (10, [.inr (0, 0), .inl (.int x1), .inl (.int x2)], [.inl (.int (-1 : Int32))], h2) rfl rfl
theorem s_X12_isClaim (x1 : Int32) (h : AH) : Sim PP (1) k_X12_isClaim (0, [.inr (34, 0), .inl (.int x1)], [], h) (f_X12_isClaim x1 h) fI := by
  unfold f_X12_isClaim
  refine S_di 6 6 154 0 [.inr (34, 0), .inl (.int x1)] [.inl (.int ((h.1 34 0 10) - (1 : Int32))), .inl (.int (0 : Int32)), .inl (.int x1)] [.inl (.int x1), .inl (.int (0 : Int32)), .inl (.int ((h.1 34 0 10) - (1 : Int32)))] [.inr (34, 0), .inl (.int x1)] [] h rfl rfl pp_154 (by decide) (s_X12_in x1 (0 : Int32) ((h.1 34 0 10) - (1 : Int32)) h) (fun y1 h2 => ?_)
  exact S_ri 0 (7, [.inr (34, 0), .inl (.int x1)], [.inl (.int y1)], h2) rfl rfl
theorem sb_X12_reasonsFor_4  (rc : Int32 → Int32 → Int32 → AH → Option (Int32 × AH)) (x1 : Int32) (x2 : Int32) (x3 : Int32) (hrc : ∀ (x2 : Int32) (x3 : Int32) (h : AH), Sim PP (0) k_X12_reasonsFor (4, [.inr (34, 0), .inl (.int x1), .inl (.int x2), .inl (.int x3)], [], h) (rc x1 x2 x3 h) (fE PP (0) k_X12_reasonsFor 24 (fun v => [av0, av0, .inl (.int v), av0])))  (h : AH) : Sim PP (0) k_X12_reasonsFor (4, [.inr (34, 0), .inl (.int x1), .inl (.int x2), .inl (.int x3)], [], h) (b_X12_reasonsFor_4 rc x1 x2 x3 h) (fE PP (0) k_X12_reasonsFor 24 (fun v => [av0, av0, .inl (.int v), av0])) := by
  unfold b_X12_reasonsFor_4
  refine S_br 4 24 8 [.inr (34, 0), .inl (.int x1), .inl (.int x2), .inl (.int x3)] [] h rfl (fun _ => ?_) (fun _ => ?_)
  · exact S_ex x2 (fun v => [av0, av0, .inl (.int v), av0]) rfl
  · refine S_grd 5 (13, [.inr (34, 0), .inl (.int x1), .inl (.int x2), .inl (.int x3)], [.inl (.int (h.1 42 0 x3.toNatClampNeg)), .inl (.int x2)], h) rfl (fun _ => ?_)
    refine S_br 2 15 19 [.inr (34, 0), .inl (.int x1), .inl (.int x2), .inl (.int x3)] [.inl (.int x2)] h rfl (fun _ => ?_) (fun _ => ?_)
    · refine S_blk 8 (4, [.inr (34, 0), .inl (.int x1), .inl (.int (x2 ||| ((1 : Int32) <<< (x3 &&& 31)))), .inl (.int (x3 + (1 : Int32)))], [], h) rfl ?_
      refine S_nrm [.inr (34, 0), .inl (.int x1), .inl (.int (x2 ||| ((1 : Int32) <<< (x3 &&& 31)))), .inl (.int (x3 + (1 : Int32)))] rfl ?_
      exact hrc (x2 ||| ((1 : Int32) <<< (x3 &&& 31))) (x3 + (1 : Int32)) h
    · refine S_blk 5 (4, [.inr (34, 0), .inl (.int x1), .inl (.int (x2 ||| (0 : Int32))), .inl (.int (x3 + (1 : Int32)))], [], h) rfl ?_
      refine S_nrm [.inr (34, 0), .inl (.int x1), .inl (.int (x2 ||| (0 : Int32))), .inl (.int (x3 + (1 : Int32)))] rfl ?_
      exact hrc (x2 ||| (0 : Int32)) (x3 + (1 : Int32)) h
theorem sl_X12_reasonsFor_4    (x1 : Int32) : ∀ (F : Nat) (x2 : Int32) (x3 : Int32) (h : AH), Sim PP (0) k_X12_reasonsFor (4, [.inr (34, 0), .inl (.int x1), .inl (.int x2), .inl (.int x3)], [], h) (l_X12_reasonsFor_4 F x1 x2 x3 h) (fE PP (0) k_X12_reasonsFor 24 (fun v => [av0, av0, .inl (.int v), av0])) := by
  intro F
  induction F with
  | zero => intro x2 x3 h; exact S_none
  | succ F ih => intro x2 x3 h; exact sb_X12_reasonsFor_4 (l_X12_reasonsFor_4 F) x1 x2 x3 ih h
theorem sc_X12_reasonsFor_24    (x2 : Int32)  (h : AH) : Sim PP (0) k_X12_reasonsFor (24, [av0, av0, .inl (.int x2), av0], [], h) (c_X12_reasonsFor_24  x2 h) fI := by
  unfold c_X12_reasonsFor_24
  exact S_ri 1 (25, [av0, av0, .inl (.int x2), av0], [.inl (.int x2)], h) rfl rfl
theorem s_X12_reasonsFor (x1 : Int32) (h : AH) : Sim PP (0) k_X12_reasonsFor (0, [.inr (34, 0), .inl (.int x1), av0, av0], [], h) (f_X12_reasonsFor x1 h) fI := by
  unfold f_X12_reasonsFor
  refine S_blk 4 (4, [.inr (34, 0), .inl (.int x1), .inl (.int (0 : Int32)), .inl (.int (0 : Int32))], [], h) rfl ?_
  refine S_nrm [.inr (34, 0), .inl (.int x1), .inl (.int (0 : Int32)), .inl (.int (0 : Int32))] rfl ?_
  refine S_lp 24 (fun v => [av0, av0, .inl (.int v), av0]) (sl_X12_reasonsFor_4 x1 FU (0 : Int32) (0 : Int32) h) (fun v h => ?_)
  exact sc_X12_reasonsFor_24 v h
theorem sb_X12_reasonsWith_4  (rc : Int32 → Int32 → Int32 → AH → Option (Int32 × AH)) (x1 : Int32) (x2 : Int32) (x3 : Int32) (hrc : ∀ (x2 : Int32) (x3 : Int32) (h : AH), Sim PP (1) k_X12_reasonsWith (4, [.inr (34, 0), .inl (.int x1), .inl (.int x2), .inl (.int x3)], [], h) (rc x1 x2 x3 h) (fE PP (1) k_X12_reasonsWith 25 (fun v => [av0, av0, .inl (.int v), av0])))  (h : AH) : Sim PP (1) k_X12_reasonsWith (4, [.inr (34, 0), .inl (.int x1), .inl (.int x2), .inl (.int x3)], [], h) (b_X12_reasonsWith_4 rc x1 x2 x3 h) (fE PP (1) k_X12_reasonsWith 25 (fun v => [av0, av0, .inl (.int v), av0])) := by
  unfold b_X12_reasonsWith_4
  refine S_br 4 25 8 [.inr (34, 0), .inl (.int x1), .inl (.int x2), .inl (.int x3)] [] h rfl (fun _ => ?_) (fun _ => ?_)
  · exact S_ex x2 (fun v => [av0, av0, .inl (.int v), av0]) rfl
  · refine S_grd 5 (13, [.inr (34, 0), .inl (.int x1), .inl (.int x2), .inl (.int x3)], [.inl (.int (h.1 43 0 x3.toNatClampNeg)), .inl (.int x2)], h) rfl (fun _ => ?_)
    refine S_di 1 14 155 0 [.inr (34, 0), .inl (.int x1), .inl (.int x2), .inl (.int x3)] [.inl (.int x1), .inl (.int (h.1 43 0 x3.toNatClampNeg)), .inl (.int x2)] [.inl (.int (h.1 43 0 x3.toNatClampNeg)), .inl (.int x1)] [.inr (34, 0), .inl (.int x1), .inl (.int x2), .inl (.int x3)] [.inl (.int x2)] h rfl rfl pp_155 (by decide) (s_X12_has (h.1 43 0 x3.toNatClampNeg) x1 h) (fun y1 h2 => ?_)
    refine S_br 1 20 16 [.inr (34, 0), .inl (.int x1), .inl (.int x2), .inl (.int x3)] [.inl (.int x2)] h2 rfl (fun _ => ?_) (fun _ => ?_)
    · refine S_blk 5 (4, [.inr (34, 0), .inl (.int x1), .inl (.int (x2 ||| (0 : Int32))), .inl (.int (x3 + (1 : Int32)))], [], h2) rfl ?_
      refine S_nrm [.inr (34, 0), .inl (.int x1), .inl (.int (x2 ||| (0 : Int32))), .inl (.int (x3 + (1 : Int32)))] rfl ?_
      exact hrc (x2 ||| (0 : Int32)) (x3 + (1 : Int32)) h2
    · refine S_blk 8 (4, [.inr (34, 0), .inl (.int x1), .inl (.int (x2 ||| ((1 : Int32) <<< (x3 &&& 31)))), .inl (.int (x3 + (1 : Int32)))], [], h2) rfl ?_
      refine S_nrm [.inr (34, 0), .inl (.int x1), .inl (.int (x2 ||| ((1 : Int32) <<< (x3 &&& 31)))), .inl (.int (x3 + (1 : Int32)))] rfl ?_
      exact hrc (x2 ||| ((1 : Int32) <<< (x3 &&& 31))) (x3 + (1 : Int32)) h2
theorem sl_X12_reasonsWith_4    (x1 : Int32) : ∀ (F : Nat) (x2 : Int32) (x3 : Int32) (h : AH), Sim PP (1) k_X12_reasonsWith (4, [.inr (34, 0), .inl (.int x1), .inl (.int x2), .inl (.int x3)], [], h) (l_X12_reasonsWith_4 F x1 x2 x3 h) (fE PP (1) k_X12_reasonsWith 25 (fun v => [av0, av0, .inl (.int v), av0])) := by
  intro F
  induction F with
  | zero => intro x2 x3 h; exact S_none
  | succ F ih => intro x2 x3 h; exact sb_X12_reasonsWith_4 (l_X12_reasonsWith_4 F) x1 x2 x3 ih h
theorem sc_X12_reasonsWith_25    (x2 : Int32)  (h : AH) : Sim PP (1) k_X12_reasonsWith (25, [av0, av0, .inl (.int x2), av0], [], h) (c_X12_reasonsWith_25  x2 h) fI := by
  unfold c_X12_reasonsWith_25
  exact S_ri 1 (26, [av0, av0, .inl (.int x2), av0], [.inl (.int x2)], h) rfl rfl
theorem s_X12_reasonsWith (x1 : Int32) (h : AH) : Sim PP (1) k_X12_reasonsWith (0, [.inr (34, 0), .inl (.int x1), av0, av0], [], h) (f_X12_reasonsWith x1 h) fI := by
  unfold f_X12_reasonsWith
  refine S_blk 4 (4, [.inr (34, 0), .inl (.int x1), .inl (.int (0 : Int32)), .inl (.int (0 : Int32))], [], h) rfl ?_
  refine S_nrm [.inr (34, 0), .inl (.int x1), .inl (.int (0 : Int32)), .inl (.int (0 : Int32))] rfl ?_
  refine S_lp 25 (fun v => [av0, av0, .inl (.int v), av0]) (sl_X12_reasonsWith_4 x1 FU (0 : Int32) (0 : Int32) h) (fun v h => ?_)
  exact sc_X12_reasonsWith_25 v h
theorem s_X12_allClaims  (h : AH) : Sim PP (0) k_X12_allClaims (0, [.inr (34, 0)], [], h) (f_X12_allClaims  h) fI := by
  unfold f_X12_allClaims
  exact S_ri 6 (6, [.inr (34, 0)], [.inl (.int (((1 : Int32) <<< ((h.1 34 0 10) &&& 31)) - (1 : Int32)))], h) rfl rfl
theorem s_X12_allReasons  (h : AH) : Sim PP (0) k_X12_allReasons (0, [.inr (34, 0)], [], h) (f_X12_allReasons  h) fI := by
  unfold f_X12_allReasons
  exact S_ri 6 (6, [.inr (34, 0)], [.inl (.int (((1 : Int32) <<< ((h.1 34 0 11) &&& 31)) - (1 : Int32)))], h) rfl rfl
theorem s_X12_isUsable (x1 : Int32) (h : AH) : Sim PP (0) k_X12_isUsable (0, [.inr (34, 0), .inl (.int x1)], [], h) (f_X12_isUsable x1 h) fI := by
  unfold f_X12_isUsable
  refine S_grd 5 (5, [.inr (34, 0), .inl (.int x1)], [.inl (.int (h.1 42 0 x1.toNatClampNeg)), .inl (.int (1 : Int32))], h) rfl (fun _ => ?_)
  refine S_grd 5 (10, [.inr (34, 0), .inl (.int x1)], [.inl (.int (h.1 43 0 x1.toNatClampNeg)), .inl (.int ((1 : Int32) <<< ((h.1 42 0 x1.toNatClampNeg) &&& 31)))], h) rfl (fun _ => ?_)
  refine S_br 5 15 17 [.inr (34, 0), .inl (.int x1)] [] h rfl (fun _ => ?_) (fun _ => ?_)
  · exact S_ri 2 (18, [.inr (34, 0), .inl (.int x1)], [.inl (.int (1 : Int32))], h) rfl rfl
  · exact S_ri 1 (18, [.inr (34, 0), .inl (.int x1)], [.inl (.int (0 : Int32))], h) rfl rfl
theorem sb_X12_standing_4  (rc : Int32 → Int32 → Int32 → Int32 → AH → Option (Int32 × AH)) (x1 : Int32) (x2 : Int32) (x3 : Int32) (x4 : Int32) (hrc : ∀ (x3 : Int32) (x4 : Int32) (h : AH), Sim PP (1) k_X12_standing (4, [.inr (34, 0), .inl (.int x1), .inl (.int x2), .inl (.int x3), .inl (.int x4), av0, av0], [], h) (rc x1 x2 x3 x4 h) (fE PP (1) k_X12_standing 33 (fun v => [.inr (34, 0), .inl (.int x1), .inl (.int x2), .inl (.int v), av0, av0, av0])))  (h : AH) : Sim PP (1) k_X12_standing (4, [.inr (34, 0), .inl (.int x1), .inl (.int x2), .inl (.int x3), .inl (.int x4), av0, av0], [], h) (b_X12_standing_4 rc x1 x2 x3 x4 h) (fE PP (1) k_X12_standing 33 (fun v => [.inr (34, 0), .inl (.int x1), .inl (.int x2), .inl (.int v), av0, av0, av0])) := by
  unfold b_X12_standing_4
  refine S_br 4 33 8 [.inr (34, 0), .inl (.int x1), .inl (.int x2), .inl (.int x3), .inl (.int x4), av0, av0] [] h rfl (fun _ => ?_) (fun _ => ?_)
  · exact S_ex x3 (fun v => [.inr (34, 0), .inl (.int x1), .inl (.int x2), .inl (.int v), av0, av0, av0]) rfl
  · refine S_grd 5 (13, [.inr (34, 0), .inl (.int x1), .inl (.int x2), .inl (.int x3), .inl (.int x4), av0, av0], [.inl (.int (h.1 41 0 x4.toNatClampNeg)), .inl (.int x3)], h) rfl (fun _ => ?_)
    refine S_br 2 15 28 [.inr (34, 0), .inl (.int x1), .inl (.int x2), .inl (.int x3), .inl (.int x4), av0, av0] [.inl (.int x3)] h rfl (fun _ => ?_) (fun _ => ?_)
    · refine S_di 7 22 155 0 [.inr (34, 0), .inl (.int x1), .inl (.int x2), .inl (.int x3), .inl (.int x4), av0, av0] [.inl (.int x4), .inl (.int (x1 &&& ((h.1 34 0 16) ^^^ (-1 : Int32)))), .inl (.int x3)] [.inl (.int (x1 &&& ((h.1 34 0 16) ^^^ (-1 : Int32)))), .inl (.int x4)] [.inr (34, 0), .inl (.int x1), .inl (.int x2), .inl (.int x3), .inl (.int x4), av0, av0] [.inl (.int x3)] h rfl rfl pp_155 (by decide) (s_X12_has (x1 &&& ((h.1 34 0 16) ^^^ (-1 : Int32))) x4 h) (fun y1 h2 => ?_)
      refine S_br 1 28 24 [.inr (34, 0), .inl (.int x1), .inl (.int x2), .inl (.int x3), .inl (.int x4), av0, av0] [.inl (.int x3)] h2 rfl (fun _ => ?_) (fun _ => ?_)
      · refine S_blk 5 (4, [.inr (34, 0), .inl (.int x1), .inl (.int x2), .inl (.int (x3 ||| (0 : Int32))), .inl (.int (x4 + (1 : Int32))), av0, av0], [], h2) rfl ?_
        refine S_nrm [.inr (34, 0), .inl (.int x1), .inl (.int x2), .inl (.int (x3 ||| (0 : Int32))), .inl (.int (x4 + (1 : Int32))), av0, av0] rfl ?_
        exact hrc (x3 ||| (0 : Int32)) (x4 + (1 : Int32)) h2
      · refine S_blk 8 (4, [.inr (34, 0), .inl (.int x1), .inl (.int x2), .inl (.int (x3 ||| ((1 : Int32) <<< (x4 &&& 31)))), .inl (.int (x4 + (1 : Int32))), av0, av0], [], h2) rfl ?_
        refine S_nrm [.inr (34, 0), .inl (.int x1), .inl (.int x2), .inl (.int (x3 ||| ((1 : Int32) <<< (x4 &&& 31)))), .inl (.int (x4 + (1 : Int32))), av0, av0] rfl ?_
        exact hrc (x3 ||| ((1 : Int32) <<< (x4 &&& 31))) (x4 + (1 : Int32)) h2
    · refine S_blk 5 (4, [.inr (34, 0), .inl (.int x1), .inl (.int x2), .inl (.int (x3 ||| (0 : Int32))), .inl (.int (x4 + (1 : Int32))), av0, av0], [], h) rfl ?_
      refine S_nrm [.inr (34, 0), .inl (.int x1), .inl (.int x2), .inl (.int (x3 ||| (0 : Int32))), .inl (.int (x4 + (1 : Int32))), av0, av0] rfl ?_
      exact hrc (x3 ||| (0 : Int32)) (x4 + (1 : Int32)) h
theorem sl_X12_standing_4    (x1 : Int32) (x2 : Int32) : ∀ (F : Nat) (x3 : Int32) (x4 : Int32) (h : AH), Sim PP (1) k_X12_standing (4, [.inr (34, 0), .inl (.int x1), .inl (.int x2), .inl (.int x3), .inl (.int x4), av0, av0], [], h) (l_X12_standing_4 F x1 x2 x3 x4 h) (fE PP (1) k_X12_standing 33 (fun v => [.inr (34, 0), .inl (.int x1), .inl (.int x2), .inl (.int v), av0, av0, av0])) := by
  intro F
  induction F with
  | zero => intro x3 x4 h; exact S_none
  | succ F ih => intro x3 x4 h; exact sb_X12_standing_4 (l_X12_standing_4 F) x1 x2 x3 x4 ih h
theorem sb_X12_standing_42  (rc : Int32 → Int32 → Int32 → Int32 → Int32 → AH → Option (Int32 × AH)) (x1 : Int32) (x2 : Int32) (x3 : Int32) (x4 : Int32) (x5 : Int32) (hrc : ∀ (x3 : Int32) (x5 : Int32) (h : AH), Sim PP (1) k_X12_standing (42, [.inr (34, 0), .inl (.int x1), .inl (.int x2), .inl (.int x3), .inl (.int x4), .inl (.int x5), av0], [], h) (rc x1 x2 x3 x4 x5 h) (fE PP (1) k_X12_standing 89 (fun v => [.inr (34, 0), .inl (.int x1), .inl (.int x2), .inl (.int v), .inl (.int x4), av0, av0])))  (h : AH) : Sim PP (1) k_X12_standing (42, [.inr (34, 0), .inl (.int x1), .inl (.int x2), .inl (.int x3), .inl (.int x4), .inl (.int x5), av0], [], h) (b_X12_standing_42 rc x1 x2 x3 x4 x5 h) (fE PP (1) k_X12_standing 89 (fun v => [.inr (34, 0), .inl (.int x1), .inl (.int x2), .inl (.int v), .inl (.int x4), av0, av0])) := by
  unfold b_X12_standing_42
  refine S_br 4 89 46 [.inr (34, 0), .inl (.int x1), .inl (.int x2), .inl (.int x3), .inl (.int x4), .inl (.int x5), av0] [] h rfl (fun _ => ?_) (fun _ => ?_)
  · exact S_ex x3 (fun v => [.inr (34, 0), .inl (.int x1), .inl (.int x2), .inl (.int v), .inl (.int x4), av0, av0]) rfl
  · refine S_di 2 48 155 0 [.inr (34, 0), .inl (.int x1), .inl (.int x2), .inl (.int x3), .inl (.int x4), .inl (.int x5), av0] [.inl (.int x5), .inl (.int x2)] [.inl (.int x2), .inl (.int x5)] [.inr (34, 0), .inl (.int x1), .inl (.int x2), .inl (.int x3), .inl (.int x4), .inl (.int x5), av0] [] h rfl rfl pp_155 (by decide) (s_X12_has x2 x5 h) (fun y1 h2 => ?_)
    refine S_br 1 72 50 [.inr (34, 0), .inl (.int x1), .inl (.int x2), .inl (.int x3), .inl (.int x4), .inl (.int x5), av0] [] h2 rfl (fun _ => ?_) (fun _ => ?_)
    · refine S_bt 5 (c := (0 : Int32) = 0) 84 77 [.inr (34, 0), .inl (.int x1), .inl (.int x2), .inl (.int x3), .inl (.int x4), .inl (.int x5), .inl (.int (0 : Int32))] [.inl (.int x3)] h2 rfl (by decide) ?_
      refine S_blk 5 (42, [.inr (34, 0), .inl (.int x1), .inl (.int x2), .inl (.int (x3 ||| (0 : Int32))), .inl (.int x4), .inl (.int (x5 + (1 : Int32))), .inl (.int (0 : Int32))], [], h2) rfl ?_
      refine S_nrm [.inr (34, 0), .inl (.int x1), .inl (.int x2), .inl (.int (x3 ||| (0 : Int32))), .inl (.int x4), .inl (.int (x5 + (1 : Int32))), av0] rfl ?_
      exact hrc (x3 ||| (0 : Int32)) (x5 + (1 : Int32)) h2
    · refine S_di 2 52 197 0 [.inr (34, 0), .inl (.int x1), .inl (.int x2), .inl (.int x3), .inl (.int x4), .inl (.int x5), av0] [.inl (.int x5), .inr (34, 0)] [.inr (34, 0), .inl (.int x5)] [.inr (34, 0), .inl (.int x1), .inl (.int x2), .inl (.int x3), .inl (.int x4), .inl (.int x5), av0] [] h2 rfl rfl pp_197 (by decide) (s_X12_isUsable x5 h2) (fun y3 h4 => ?_)
      refine S_br 1 72 54 [.inr (34, 0), .inl (.int x1), .inl (.int x2), .inl (.int x3), .inl (.int x4), .inl (.int x5), av0] [] h4 rfl (fun _ => ?_) (fun _ => ?_)
      · refine S_bt 5 (c := (0 : Int32) = 0) 84 77 [.inr (34, 0), .inl (.int x1), .inl (.int x2), .inl (.int x3), .inl (.int x4), .inl (.int x5), .inl (.int (0 : Int32))] [.inl (.int x3)] h4 rfl (by decide) ?_
        refine S_blk 5 (42, [.inr (34, 0), .inl (.int x1), .inl (.int x2), .inl (.int (x3 ||| (0 : Int32))), .inl (.int x4), .inl (.int (x5 + (1 : Int32))), .inl (.int (0 : Int32))], [], h4) rfl ?_
        refine S_nrm [.inr (34, 0), .inl (.int x1), .inl (.int x2), .inl (.int (x3 ||| (0 : Int32))), .inl (.int x4), .inl (.int (x5 + (1 : Int32))), av0] rfl ?_
        exact hrc (x3 ||| (0 : Int32)) (x5 + (1 : Int32)) h4
      · refine S_grd 5 (59, [.inr (34, 0), .inl (.int x1), .inl (.int x2), .inl (.int x3), .inl (.int x4), .inl (.int x5), av0], [.inl (.int (h4.1 42 0 x5.toNatClampNeg)), .inl (.int x1)], h4) rfl (fun _ => ?_)
        refine S_di 0 59 155 0 [.inr (34, 0), .inl (.int x1), .inl (.int x2), .inl (.int x3), .inl (.int x4), .inl (.int x5), av0] [.inl (.int (h4.1 42 0 x5.toNatClampNeg)), .inl (.int x1)] [.inl (.int x1), .inl (.int (h4.1 42 0 x5.toNatClampNeg))] [.inr (34, 0), .inl (.int x1), .inl (.int x2), .inl (.int x3), .inl (.int x4), .inl (.int x5), av0] [] h4 rfl rfl pp_155 (by decide) (s_X12_has x1 (h4.1 42 0 x5.toNatClampNeg) h4) (fun y5 h6 => ?_)
        refine S_br 1 72 61 [.inr (34, 0), .inl (.int x1), .inl (.int x2), .inl (.int x3), .inl (.int x4), .inl (.int x5), av0] [] h6 rfl (fun _ => ?_) (fun _ => ?_)
        · refine S_bt 5 (c := (0 : Int32) = 0) 84 77 [.inr (34, 0), .inl (.int x1), .inl (.int x2), .inl (.int x3), .inl (.int x4), .inl (.int x5), .inl (.int (0 : Int32))] [.inl (.int x3)] h6 rfl (by decide) ?_
          refine S_blk 5 (42, [.inr (34, 0), .inl (.int x1), .inl (.int x2), .inl (.int (x3 ||| (0 : Int32))), .inl (.int x4), .inl (.int (x5 + (1 : Int32))), .inl (.int (0 : Int32))], [], h6) rfl ?_
          refine S_nrm [.inr (34, 0), .inl (.int x1), .inl (.int x2), .inl (.int (x3 ||| (0 : Int32))), .inl (.int x4), .inl (.int (x5 + (1 : Int32))), av0] rfl ?_
          exact hrc (x3 ||| (0 : Int32)) (x5 + (1 : Int32)) h6
        · refine S_grd 4 (65, [.inr (34, 0), .inl (.int x1), .inl (.int x2), .inl (.int x3), .inl (.int x4), .inl (.int x5), av0], [.inl (.int (h6.1 43 0 x5.toNatClampNeg))], h6) rfl (fun _ => ?_)
          refine S_br 5 70 72 [.inr (34, 0), .inl (.int x1), .inl (.int x2), .inl (.int x3), .inl (.int x4), .inl (.int x5), av0] [] h6 rfl (fun _ => ?_) (fun _ => ?_)
          · refine S_bf 6 (c := (1 : Int32) = 0) 84 77 [.inr (34, 0), .inl (.int x1), .inl (.int x2), .inl (.int x3), .inl (.int x4), .inl (.int x5), .inl (.int (1 : Int32))] [.inl (.int x3)] h6 rfl (by decide) ?_
            refine S_grd 5 (82, [.inr (34, 0), .inl (.int x1), .inl (.int x2), .inl (.int x3), .inl (.int x4), .inl (.int x5), .inl (.int (1 : Int32))], [.inl (.int (h6.1 42 0 x5.toNatClampNeg)), .inl (.int (1 : Int32)), .inl (.int x3)], h6) rfl (fun _ => ?_)
            refine S_blk 6 (42, [.inr (34, 0), .inl (.int x1), .inl (.int x2), .inl (.int (x3 ||| ((1 : Int32) <<< ((h6.1 42 0 x5.toNatClampNeg) &&& 31)))), .inl (.int x4), .inl (.int (x5 + (1 : Int32))), .inl (.int (1 : Int32))], [], h6) rfl ?_
            refine S_nrm [.inr (34, 0), .inl (.int x1), .inl (.int x2), .inl (.int (x3 ||| ((1 : Int32) <<< ((h6.1 42 0 x5.toNatClampNeg) &&& 31)))), .inl (.int x4), .inl (.int (x5 + (1 : Int32))), av0] rfl ?_
            exact hrc (x3 ||| ((1 : Int32) <<< ((h6.1 42 0 x5.toNatClampNeg) &&& 31))) (x5 + (1 : Int32)) h6
          · refine S_bt 5 (c := (0 : Int32) = 0) 84 77 [.inr (34, 0), .inl (.int x1), .inl (.int x2), .inl (.int x3), .inl (.int x4), .inl (.int x5), .inl (.int (0 : Int32))] [.inl (.int x3)] h6 rfl (by decide) ?_
            refine S_blk 5 (42, [.inr (34, 0), .inl (.int x1), .inl (.int x2), .inl (.int (x3 ||| (0 : Int32))), .inl (.int x4), .inl (.int (x5 + (1 : Int32))), .inl (.int (0 : Int32))], [], h6) rfl ?_
            refine S_nrm [.inr (34, 0), .inl (.int x1), .inl (.int x2), .inl (.int (x3 ||| (0 : Int32))), .inl (.int x4), .inl (.int (x5 + (1 : Int32))), av0] rfl ?_
            exact hrc (x3 ||| (0 : Int32)) (x5 + (1 : Int32)) h6
theorem sl_X12_standing_42    (x1 : Int32) (x2 : Int32) (x4 : Int32) : ∀ (F : Nat) (x3 : Int32) (x5 : Int32) (h : AH), Sim PP (1) k_X12_standing (42, [.inr (34, 0), .inl (.int x1), .inl (.int x2), .inl (.int x3), .inl (.int x4), .inl (.int x5), av0], [], h) (l_X12_standing_42 F x1 x2 x3 x4 x5 h) (fE PP (1) k_X12_standing 89 (fun v => [.inr (34, 0), .inl (.int x1), .inl (.int x2), .inl (.int v), .inl (.int x4), av0, av0])) := by
  intro F
  induction F with
  | zero => intro x3 x5 h; exact S_none
  | succ F ih => intro x3 x5 h; exact sb_X12_standing_42 (l_X12_standing_42 F) x1 x2 x3 x4 x5 ih h
theorem sc_X12_standing_89  (rc : Int32 → Int32 → Int32 → Int32 → AH → Option (Int32 × AH))  (x1 : Int32) (x2 : Int32) (x3 : Int32) (x4 : Int32) (hrc : ∀ (x3 : Int32) (x4 : Int32) (h : AH), Sim PP (1) k_X12_standing (35, [.inr (34, 0), .inl (.int x1), .inl (.int x2), .inl (.int x3), .inl (.int x4), av0, av0], [], h) (rc x1 x2 x3 x4 h) (fE PP (1) k_X12_standing 90 (fun v => [av0, av0, av0, .inl (.int v), av0, av0, av0]))) (h : AH) : Sim PP (1) k_X12_standing (89, [.inr (34, 0), .inl (.int x1), .inl (.int x2), .inl (.int x3), .inl (.int x4), av0, av0], [], h) (c_X12_standing_89 rc x1 x2 x3 x4 h) (fE PP (1) k_X12_standing 90 (fun v => [av0, av0, av0, .inl (.int v), av0, av0, av0])) := by
  unfold c_X12_standing_89
  refine S_blk 1 (35, [.inr (34, 0), .inl (.int x1), .inl (.int x2), .inl (.int x3), .inl (.int x4), av0, av0], [], h) rfl ?_
  refine S_nrm [.inr (34, 0), .inl (.int x1), .inl (.int x2), .inl (.int x3), .inl (.int x4), av0, av0] rfl ?_
  exact hrc x3 x4 h
theorem sb_X12_standing_35  (rc : Int32 → Int32 → Int32 → Int32 → AH → Option (Int32 × AH)) (x1 : Int32) (x2 : Int32) (x3 : Int32) (x4 : Int32) (hrc : ∀ (x3 : Int32) (x4 : Int32) (h : AH), Sim PP (1) k_X12_standing (35, [.inr (34, 0), .inl (.int x1), .inl (.int x2), .inl (.int x3), .inl (.int x4), av0, av0], [], h) (rc x1 x2 x3 x4 h) (fE PP (1) k_X12_standing 90 (fun v => [av0, av0, av0, .inl (.int v), av0, av0, av0])))  (h : AH) : Sim PP (1) k_X12_standing (35, [.inr (34, 0), .inl (.int x1), .inl (.int x2), .inl (.int x3), .inl (.int x4), av0, av0], [], h) (b_X12_standing_35 rc x1 x2 x3 x4 h) (fE PP (1) k_X12_standing 90 (fun v => [av0, av0, av0, .inl (.int v), av0, av0, av0])) := by
  unfold b_X12_standing_35
  refine S_br 3 90 38 [.inr (34, 0), .inl (.int x1), .inl (.int x2), .inl (.int x3), .inl (.int x4), av0, av0] [] h rfl (fun _ => ?_) (fun _ => ?_)
  · exact S_ex x3 (fun v => [av0, av0, av0, .inl (.int v), av0, av0, av0]) rfl
  · refine S_blk 4 (42, [.inr (34, 0), .inl (.int x1), .inl (.int x2), .inl (.int x3), .inl (.int x3), .inl (.int (0 : Int32)), av0], [], h) rfl ?_
    refine S_nrm [.inr (34, 0), .inl (.int x1), .inl (.int x2), .inl (.int x3), .inl (.int x3), .inl (.int (0 : Int32)), av0] rfl ?_
    refine S_lp 89 (fun v => [.inr (34, 0), .inl (.int x1), .inl (.int x2), .inl (.int v), .inl (.int x3), av0, av0]) (sl_X12_standing_42 x1 x2 x3 FU x3 (0 : Int32) h) (fun v h => ?_)
    exact sc_X12_standing_89 rc x1 x2 v x3 hrc h
theorem sl_X12_standing_35    (x1 : Int32) (x2 : Int32) : ∀ (F : Nat) (x3 : Int32) (x4 : Int32) (h : AH), Sim PP (1) k_X12_standing (35, [.inr (34, 0), .inl (.int x1), .inl (.int x2), .inl (.int x3), .inl (.int x4), av0, av0], [], h) (l_X12_standing_35 F x1 x2 x3 x4 h) (fE PP (1) k_X12_standing 90 (fun v => [av0, av0, av0, .inl (.int v), av0, av0, av0])) := by
  intro F
  induction F with
  | zero => intro x3 x4 h; exact S_none
  | succ F ih => intro x3 x4 h; exact sb_X12_standing_35 (l_X12_standing_35 F) x1 x2 x3 x4 ih h
theorem sc_X12_standing_90    (x3 : Int32)  (h : AH) : Sim PP (1) k_X12_standing (90, [av0, av0, av0, .inl (.int x3), av0, av0, av0], [], h) (c_X12_standing_90  x3 h) fI := by
  unfold c_X12_standing_90
  exact S_ri 1 (91, [av0, av0, av0, .inl (.int x3), av0, av0, av0], [.inl (.int x3)], h) rfl rfl
theorem sc_X12_standing_33    (x1 : Int32) (x2 : Int32) (x3 : Int32)  (h : AH) : Sim PP (1) k_X12_standing (33, [.inr (34, 0), .inl (.int x1), .inl (.int x2), .inl (.int x3), av0, av0, av0], [], h) (c_X12_standing_33  x1 x2 x3 h) fI := by
  unfold c_X12_standing_33
  refine S_blk 2 (35, [.inr (34, 0), .inl (.int x1), .inl (.int x2), .inl (.int x3), .inl (.int (-9 : Int32)), av0, av0], [], h) rfl ?_
  refine S_nrm [.inr (34, 0), .inl (.int x1), .inl (.int x2), .inl (.int x3), .inl (.int (-9 : Int32)), av0, av0] rfl ?_
  refine S_lp 90 (fun v => [av0, av0, av0, .inl (.int v), av0, av0, av0]) (sl_X12_standing_35 x1 x2 FU x3 (-9 : Int32) h) (fun v h => ?_)
  exact sc_X12_standing_90 v h
theorem s_X12_standing (x1 : Int32) (x2 : Int32) (h : AH) : Sim PP (1) k_X12_standing (0, [.inr (34, 0), .inl (.int x1), .inl (.int x2), av0, av0, av0, av0], [], h) (f_X12_standing x1 x2 h) fI := by
  unfold f_X12_standing
  refine S_blk 4 (4, [.inr (34, 0), .inl (.int x1), .inl (.int x2), .inl (.int (0 : Int32)), .inl (.int (0 : Int32)), av0, av0], [], h) rfl ?_
  refine S_nrm [.inr (34, 0), .inl (.int x1), .inl (.int x2), .inl (.int (0 : Int32)), .inl (.int (0 : Int32)), av0, av0] rfl ?_
  refine S_lp 33 (fun v => [.inr (34, 0), .inl (.int x1), .inl (.int x2), .inl (.int v), av0, av0, av0]) (sl_X12_standing_4 x1 x2 FU (0 : Int32) (0 : Int32) h) (fun v h => ?_)
  exact sc_X12_standing_33 x1 x2 v h
theorem s_X12_standNow  (h : AH) : Sim PP (2) k_X12_standNow (0, [.inr (34, 0)], [], h) (f_X12_standNow  h) fI := by
  unfold f_X12_standNow
  refine S_di 2 2 191 0 [.inr (34, 0)] [.inr (34, 0), .inr (34, 0)] [.inr (34, 0)] [.inr (34, 0)] [.inr (34, 0)] h rfl rfl pp_191 (by decide) (s_X12_allClaims  h) (fun y1 h2 => ?_)
  refine S_di 1 4 192 0 [.inr (34, 0)] [.inr (34, 0), .inl (.int y1), .inr (34, 0)] [.inr (34, 0)] [.inr (34, 0)] [.inl (.int y1), .inr (34, 0)] h2 rfl rfl pp_192 (by decide) (s_X12_allReasons  h2) (fun y3 h4 => ?_)
  refine S_di 0 5 201 1 [.inr (34, 0)] [.inl (.int y3), .inl (.int y1), .inr (34, 0)] [.inr (34, 0), .inl (.int y1), .inl (.int y3), av0, av0, av0, av0] [.inr (34, 0)] [] h4 rfl rfl pp_201 (by decide) (s_X12_standing y1 y3 h4) (fun y5 h6 => ?_)
  exact S_ri 0 (6, [.inr (34, 0)], [.inl (.int y5)], h6) rfl rfl
theorem s_X12_claimTells (x1 : Int32) (x2 : Int32) (h : AH) : Sim PP (3) k_X12_claimTells (0, [.inr (34, 0), .inl (.int x1), .inl (.int x2)], [], h) (f_X12_claimTells x1 x2 h) fI := by
  unfold f_X12_claimTells
  refine S_blk 2 (if x2 = 0 then 2 else if x2 = 1 then 7 else if x2 = 2 then 11 else if x2 = 3 then 15 else 24, [.inr (34, 0), .inl (.int x1), .inl (.int x2)], [], h) rfl ?_
  refine S_ite (fun _ => ?_) (fun _ => ?_)
  · refine S_grd 4 (6, [.inr (34, 0), .inl (.int x1), .inl (.int x2)], [.inl (.int (h.1 41 0 x1.toNatClampNeg))], h) rfl (fun _ => ?_)
    exact S_ri 0 (6, [.inr (34, 0), .inl (.int x1), .inl (.int x2)], [.inl (.int (h.1 41 0 x1.toNatClampNeg))], h) rfl rfl
  · refine S_ite (fun _ => ?_) (fun _ => ?_)
    · refine S_di 2 9 195 0 [.inr (34, 0), .inl (.int x1), .inl (.int x2)] [.inl (.int x1), .inr (34, 0)] [.inr (34, 0), .inl (.int x1), av0, av0] [.inr (34, 0), .inl (.int x1), .inl (.int x2)] [] h rfl rfl pp_195 (by decide) (s_X12_reasonsFor x1 h) (fun y1 h2 => ?_)
      exact S_ri 0 (10, [.inr (34, 0), .inl (.int x1), .inl (.int x2)], [.inl (.int y1)], h2) rfl rfl
    · refine S_ite (fun _ => ?_) (fun _ => ?_)
      · refine S_di 2 13 196 1 [.inr (34, 0), .inl (.int x1), .inl (.int x2)] [.inl (.int x1), .inr (34, 0)] [.inr (34, 0), .inl (.int x1), av0, av0] [.inr (34, 0), .inl (.int x1), .inl (.int x2)] [] h rfl rfl pp_196 (by decide) (s_X12_reasonsWith x1 h) (fun y3 h4 => ?_)
        exact S_ri 0 (14, [.inr (34, 0), .inl (.int x1), .inl (.int x2)], [.inl (.int y3)], h4) rfl rfl
      · refine S_ite (fun _ => ?_) (fun _ => ?_)
        · refine S_di 1 16 202 2 [.inr (34, 0), .inl (.int x1), .inl (.int x2)] [.inr (34, 0)] [.inr (34, 0)] [.inr (34, 0), .inl (.int x1), .inl (.int x2)] [] h rfl rfl pp_202 (by decide) (s_X12_standNow  h) (fun y5 h6 => ?_)
          refine S_di 1 18 155 0 [.inr (34, 0), .inl (.int x1), .inl (.int x2)] [.inl (.int x1), .inl (.int y5)] [.inl (.int y5), .inl (.int x1)] [.inr (34, 0), .inl (.int x1), .inl (.int x2)] [] h6 rfl rfl pp_155 (by decide) (s_X12_has y5 x1 h6) (fun y7 h8 => ?_)
          refine S_br 1 22 20 [.inr (34, 0), .inl (.int x1), .inl (.int x2)] [] h8 rfl (fun _ => ?_) (fun _ => ?_)
          · exact S_ri 1 (23, [.inr (34, 0), .inl (.int x1), .inl (.int x2)], [.inl (.int (0 : Int32))], h8) rfl rfl
          · exact S_ri 2 (23, [.inr (34, 0), .inl (.int x1), .inl (.int x2)], [.inl (.int (1 : Int32))], h8) rfl rfl
        · refine S_di 3 27 155 0 [.inr (34, 0), .inl (.int x1), .inl (.int x2)] [.inl (.int x1), .inl (.int (h.1 34 0 16))] [.inl (.int (h.1 34 0 16)), .inl (.int x1)] [.inr (34, 0), .inl (.int x1), .inl (.int x2)] [] h rfl rfl pp_155 (by decide) (s_X12_has (h.1 34 0 16) x1 h) (fun y9 h10 => ?_)
          refine S_br 1 31 29 [.inr (34, 0), .inl (.int x1), .inl (.int x2)] [] h10 rfl (fun _ => ?_) (fun _ => ?_)
          · exact S_ri 1 (32, [.inr (34, 0), .inl (.int x1), .inl (.int x2)], [.inl (.int (0 : Int32))], h10) rfl rfl
          · exact S_ri 2 (32, [.inr (34, 0), .inl (.int x1), .inl (.int x2)], [.inl (.int (1 : Int32))], h10) rfl rfl
theorem s_X12_claim (x1 : Int32) (x2 : Int32) (h : AH) : Sim PP (4) k_X12_claim (0, [.inr (34, 0), .inl (.int x1), .inl (.int x2)], [], h) (f_X12_claim x1 x2 h) fI := by
  unfold f_X12_claim
  refine S_di 2 2 189 1 [.inr (34, 0), .inl (.int x1), .inl (.int x2)] [.inl (.int x1), .inr (34, 0)] [.inr (34, 0), .inl (.int x1)] [.inr (34, 0), .inl (.int x1), .inl (.int x2)] [] h rfl rfl pp_189 (by decide) (s_X12_isClaim x1 h) (fun y1 h2 => ?_)
  refine S_br 1 17 4 [.inr (34, 0), .inl (.int x1), .inl (.int x2)] [] h2 rfl (fun _ => ?_) (fun _ => ?_)
  · exact S_ri 1 (18, [.inr (34, 0), .inl (.int x1), .inl (.int x2)], [.inl (.int (-1 : Int32))], h2) rfl rfl
  · refine S_di 3 7 154 0 [.inr (34, 0), .inl (.int x1), .inl (.int x2)] [.inl (.int (4 : Int32)), .inl (.int (0 : Int32)), .inl (.int x2)] [.inl (.int x2), .inl (.int (0 : Int32)), .inl (.int (4 : Int32))] [.inr (34, 0), .inl (.int x1), .inl (.int x2)] [] h2 rfl rfl pp_154 (by decide) (s_X12_in x2 (0 : Int32) (4 : Int32) h2) (fun y3 h4 => ?_)
    refine S_br 1 17 9 [.inr (34, 0), .inl (.int x1), .inl (.int x2)] [] h4 rfl (fun _ => ?_) (fun _ => ?_)
    · exact S_ri 1 (18, [.inr (34, 0), .inl (.int x1), .inl (.int x2)], [.inl (.int (-1 : Int32))], h4) rfl rfl
    · refine S_di 4 13 204 3 [.inr (34, 0), .inl (.int x1), .inl (.int x2)] [.inl (.int x2), .inl (.int x1), .inr (34, 0), .inr (34, 0)] [.inr (34, 0), .inl (.int x1), .inl (.int x2)] [.inr (34, 0), .inl (.int x1), .inl (.int x2)] [.inr (34, 0)] h4 rfl rfl pp_204 (by decide) (s_X12_claimTells x1 x2 h4) (fun y5 h6 => ?_)
      refine S_di 1 15 162 0 [.inr (34, 0), .inl (.int x1), .inl (.int x2)] [.inl (.int (1 : Int32)), .inl (.int y5), .inr (34, 0)] [.inr (34, 0), .inl (.int y5), .inl (.int (1 : Int32))] [.inr (34, 0), .inl (.int x1), .inl (.int x2)] [] h6 rfl rfl pp_162 (by decide) (s_X12_tells y5 (1 : Int32) h6) (fun y7 h8 => ?_)
      exact S_ri 1 (18, [.inr (34, 0), .inl (.int x1), .inl (.int x2)], [.inl (.int y7)], h8) rfl rfl
theorem s_X11_isReason (x1 : Int32) (h : AH) : Sim PP (0) k_X11_isReason (0, [.inr (0, 0), .inl (.int x1)], [], h) (f_X11_isReason x1 h) fI := by
  unfold f_X11_isReason
  refine S_br 2 9 2 [.inr (0, 0), .inl (.int x1)] [] h rfl (fun _ => ?_) (fun _ => ?_)
  · exact S_ri 1 (10, [.inr (0, 0), .inl (.int x1)], [.inl (.int (0 : Int32))], h) rfl rfl
  · refine S_br 5 9 7 [.inr (0, 0), .inl (.int x1)] [] h rfl (fun _ => ?_) (fun _ => ?_)
    · exact S_ri 1 (10, [.inr (0, 0), .inl (.int x1)], [.inl (.int (0 : Int32))], h) rfl rfl
    · exact S_ri 2 (10, [.inr (0, 0), .inl (.int x1)], [.inl (.int (1 : Int32))], h) rfl rfl
theorem s_X11_factOfReason (x1 : Int32) (x2 : Int32) (h : AH) : Sim PP (0) k_X11_factOfReason (0, [.inr (0, 0), .inl (.int x1), .inl (.int x2)], [], h) (f_X11_factOfReason x1 x2 h) fI := by
  unfold f_X11_factOfReason
  refine S_blk 2 (if x2 = 0 then 2 else if x2 = 1 then 8 else 14, [.inr (0, 0), .inl (.int x1), .inl (.int x2)], [], h) rfl ?_
  refine S_ite (fun _ => ?_) (fun _ => ?_)
  · refine S_grd 5 (7, [.inr (0, 0), .inl (.int x1), .inl (.int x2)], [.inl (.int (h.1 15 0 x1.toNatClampNeg))], h) rfl (fun _ => ?_)
    exact S_ri 0 (7, [.inr (0, 0), .inl (.int x1), .inl (.int x2)], [.inl (.int (h.1 15 0 x1.toNatClampNeg))], h) rfl rfl
  · refine S_ite (fun _ => ?_) (fun _ => ?_)
    · refine S_grd 5 (13, [.inr (0, 0), .inl (.int x1), .inl (.int x2)], [.inl (.int (h.1 16 0 x1.toNatClampNeg))], h) rfl (fun _ => ?_)
      exact S_ri 0 (13, [.inr (0, 0), .inl (.int x1), .inl (.int x2)], [.inl (.int (h.1 16 0 x1.toNatClampNeg))], h) rfl rfl
    · refine S_grd 5 (19, [.inr (0, 0), .inl (.int x1), .inl (.int x2)], [.inl (.int (h.1 9 3 x1.toNatClampNeg))], h) rfl (fun _ => ?_)
      exact S_ri 0 (19, [.inr (0, 0), .inl (.int x1), .inl (.int x2)], [.inl (.int (h.1 9 3 x1.toNatClampNeg))], h) rfl rfl
theorem s_X11_reason (x1 : Int32) (x2 : Int32) (h : AH) : Sim PP (1) k_X11_reason (0, [.inr (0, 0), .inl (.int x1), .inl (.int x2)], [], h) (f_X11_reason x1 x2 h) fI := by
  unfold f_X11_reason
  refine S_di 2 2 137 0 [.inr (0, 0), .inl (.int x1), .inl (.int x2)] [.inl (.int x1), .inr (0, 0)] [.inr (0, 0), .inl (.int x1)] [.inr (0, 0), .inl (.int x1), .inl (.int x2)] [] h rfl rfl pp_137 (by decide) (s_X11_isReason x1 h) (fun y1 h2 => ?_)
  refine S_br 1 9 4 [.inr (0, 0), .inl (.int x1), .inl (.int x2)] [] h2 rfl (fun _ => ?_) (fun _ => ?_)
  · exact S_ri 1 (10, [.inr (0, 0), .inl (.int x1), .inl (.int x2)], [.inl (.int (-1 : Int32))], h2) rfl rfl
  · refine S_br 2 9 6 [.inr (0, 0), .inl (.int x1), .inl (.int x2)] [] h2 rfl (fun _ => ?_) (fun _ => ?_)
    · exact S_ri 1 (10, [.inr (0, 0), .inl (.int x1), .inl (.int x2)], [.inl (.int (-1 : Int32))], h2) rfl rfl
    · refine S_br 3 11 9 [.inr (0, 0), .inl (.int x1), .inl (.int x2)] [] h2 rfl (fun _ => ?_) (fun _ => ?_)
      · refine S_di 4 15 144 0 [.inr (0, 0), .inl (.int x1), .inl (.int x2)] [.inl (.int x2), .inl (.int x1), .inr (0, 0), .inr (0, 0)] [.inr (0, 0), .inl (.int x1), .inl (.int x2)] [.inr (0, 0), .inl (.int x1), .inl (.int x2)] [.inr (0, 0)] h2 rfl rfl pp_144 (by decide) (s_X11_factOfReason x1 x2 h2) (fun y3 h4 => ?_)
        exact S_ri 2 (18, [.inr (0, 0), .inl (.int x1), .inl (.int x2)], [.inl (.int (1 : Int32))], (hsI h4 0 0 14 y3)) rfl rfl
      · exact S_ri 1 (10, [.inr (0, 0), .inl (.int x1), .inl (.int x2)], [.inl (.int (-1 : Int32))], h2) rfl rfl
theorem s_X12_isReason (x1 : Int32) (h : AH) : Sim PP (1) k_X12_isReason (0, [.inr (34, 0), .inl (.int x1)], [], h) (f_X12_isReason x1 h) fI := by
  unfold f_X12_isReason
  refine S_di 6 6 154 0 [.inr (34, 0), .inl (.int x1)] [.inl (.int ((h.1 34 0 11) - (1 : Int32))), .inl (.int (0 : Int32)), .inl (.int x1)] [.inl (.int x1), .inl (.int (0 : Int32)), .inl (.int ((h.1 34 0 11) - (1 : Int32)))] [.inr (34, 0), .inl (.int x1)] [] h rfl rfl pp_154 (by decide) (s_X12_in x1 (0 : Int32) ((h.1 34 0 11) - (1 : Int32)) h) (fun y1 h2 => ?_)
  exact S_ri 0 (7, [.inr (34, 0), .inl (.int x1)], [.inl (.int y1)], h2) rfl rfl
theorem s_X12_reasonTells (x1 : Int32) (x2 : Int32) (h : AH) : Sim PP (0) k_X12_reasonTells (0, [.inr (34, 0), .inl (.int x1), .inl (.int x2)], [], h) (f_X12_reasonTells x1 x2 h) fI := by
  unfold f_X12_reasonTells
  refine S_br 2 2 7 [.inr (34, 0), .inl (.int x1), .inl (.int x2)] [] h rfl (fun _ => ?_) (fun _ => ?_)
  · refine S_grd 4 (6, [.inr (34, 0), .inl (.int x1), .inl (.int x2)], [.inl (.int (h.1 42 0 x1.toNatClampNeg))], h) rfl (fun _ => ?_)
    exact S_ri 1 (19, [.inr (34, 0), .inl (.int x1), .inl (.int x2)], [.inl (.int (h.1 42 0 x1.toNatClampNeg))], h) rfl rfl
  · refine S_br 3 10 15 [.inr (34, 0), .inl (.int x1), .inl (.int x2)] [] h rfl (fun _ => ?_) (fun _ => ?_)
    · refine S_grd 4 (14, [.inr (34, 0), .inl (.int x1), .inl (.int x2)], [.inl (.int (h.1 43 0 x1.toNatClampNeg))], h) rfl (fun _ => ?_)
      exact S_ri 1 (19, [.inr (34, 0), .inl (.int x1), .inl (.int x2)], [.inl (.int (h.1 43 0 x1.toNatClampNeg))], h) rfl rfl
    · refine S_grd 4 (19, [.inr (34, 0), .inl (.int x1), .inl (.int x2)], [.inl (.int (h.1 44 0 x1.toNatClampNeg))], h) rfl (fun _ => ?_)
      exact S_ri 0 (19, [.inr (34, 0), .inl (.int x1), .inl (.int x2)], [.inl (.int (h.1 44 0 x1.toNatClampNeg))], h) rfl rfl
theorem s_X12_reason (x1 : Int32) (x2 : Int32) (h : AH) : Sim PP (2) k_X12_reason (0, [.inr (34, 0), .inl (.int x1), .inl (.int x2)], [], h) (f_X12_reason x1 x2 h) fI := by
  unfold f_X12_reason
  refine S_di 2 2 190 1 [.inr (34, 0), .inl (.int x1), .inl (.int x2)] [.inl (.int x1), .inr (34, 0)] [.inr (34, 0), .inl (.int x1)] [.inr (34, 0), .inl (.int x1), .inl (.int x2)] [] h rfl rfl pp_190 (by decide) (s_X12_isReason x1 h) (fun y1 h2 => ?_)
  refine S_br 1 17 4 [.inr (34, 0), .inl (.int x1), .inl (.int x2)] [] h2 rfl (fun _ => ?_) (fun _ => ?_)
  · exact S_ri 1 (18, [.inr (34, 0), .inl (.int x1), .inl (.int x2)], [.inl (.int (-1 : Int32))], h2) rfl rfl
  · refine S_di 3 7 154 0 [.inr (34, 0), .inl (.int x1), .inl (.int x2)] [.inl (.int (2 : Int32)), .inl (.int (0 : Int32)), .inl (.int x2)] [.inl (.int x2), .inl (.int (0 : Int32)), .inl (.int (2 : Int32))] [.inr (34, 0), .inl (.int x1), .inl (.int x2)] [] h2 rfl rfl pp_154 (by decide) (s_X12_in x2 (0 : Int32) (2 : Int32) h2) (fun y3 h4 => ?_)
    refine S_br 1 17 9 [.inr (34, 0), .inl (.int x1), .inl (.int x2)] [] h4 rfl (fun _ => ?_) (fun _ => ?_)
    · exact S_ri 1 (18, [.inr (34, 0), .inl (.int x1), .inl (.int x2)], [.inl (.int (-1 : Int32))], h4) rfl rfl
    · refine S_di 4 13 206 0 [.inr (34, 0), .inl (.int x1), .inl (.int x2)] [.inl (.int x2), .inl (.int x1), .inr (34, 0), .inr (34, 0)] [.inr (34, 0), .inl (.int x1), .inl (.int x2)] [.inr (34, 0), .inl (.int x1), .inl (.int x2)] [.inr (34, 0)] h4 rfl rfl pp_206 (by decide) (s_X12_reasonTells x1 x2 h4) (fun y5 h6 => ?_)
      refine S_di 1 15 162 0 [.inr (34, 0), .inl (.int x1), .inl (.int x2)] [.inl (.int (1 : Int32)), .inl (.int y5), .inr (34, 0)] [.inr (34, 0), .inl (.int y5), .inl (.int (1 : Int32))] [.inr (34, 0), .inl (.int x1), .inl (.int x2)] [] h6 rfl rfl pp_162 (by decide) (s_X12_tells y5 (1 : Int32) h6) (fun y7 h8 => ?_)
      exact S_ri 1 (18, [.inr (34, 0), .inl (.int x1), .inl (.int x2)], [.inl (.int y7)], h8) rfl rfl
theorem s_X0_isUsable (x1 : Int32) (h : AH) : Sim PP (1) k_X0_isUsable (0, [.inr (18, 0), .inl (.int x1)], [], h) (f_X0_isUsable x1 h) fI := by
  unfold f_X0_isUsable
  refine S_grd 8 (8, [.inr (18, 0), .inl (.int x1)], [.inl (.int (h.1 15 0 x1.toNatClampNeg)), .inl (.int (h.1 8 3 3))], h) rfl (fun _ => ?_)
  refine S_di 0 8 138 0 [.inr (18, 0), .inl (.int x1)] [.inl (.int (h.1 15 0 x1.toNatClampNeg)), .inl (.int (h.1 8 3 3))] [.inl (.int (h.1 8 3 3)), .inl (.int (h.1 15 0 x1.toNatClampNeg))] [.inr (18, 0), .inl (.int x1)] [] h rfl rfl pp_138 (by decide) (s_X11_has (h.1 8 3 3) (h.1 15 0 x1.toNatClampNeg) h) (fun y1 h2 => ?_)
  refine S_br 1 10 22 [.inr (18, 0), .inl (.int x1)] [] h2 rfl (fun _ => ?_) (fun _ => ?_)
  · refine S_grd 5 (15, [.inr (18, 0), .inl (.int x1)], [.inl (.int (h2.1 16 0 x1.toNatClampNeg))], h2) rfl (fun _ => ?_)
    refine S_br 5 20 22 [.inr (18, 0), .inl (.int x1)] [] h2 rfl (fun _ => ?_) (fun _ => ?_)
    · exact S_ri 2 (23, [.inr (18, 0), .inl (.int x1)], [.inl (.int (1 : Int32))], h2) rfl rfl
    · exact S_ri 1 (23, [.inr (18, 0), .inl (.int x1)], [.inl (.int (0 : Int32))], h2) rfl rfl
  · exact S_ri 1 (23, [.inr (18, 0), .inl (.int x1)], [.inl (.int (0 : Int32))], h2) rfl rfl
theorem sb_X0_lossBits_13  (rc : Int32 → Int32 → AH → Option (Int32 × AH)) (x1 : Int32) (x2 : Int32) (hrc : ∀ (x1 : Int32) (x2 : Int32) (h : AH), Sim PP (2) k_X0_lossBits (13, [.inr (18, 0), .inl (.int x1), .inl (.int x2)], [], h) (rc x1 x2 h) (fE PP (2) k_X0_lossBits 38 (fun v => [.inr (18, 0), .inl (.int v), av0])))  (h : AH) : Sim PP (2) k_X0_lossBits (13, [.inr (18, 0), .inl (.int x1), .inl (.int x2)], [], h) (b_X0_lossBits_13 rc x1 x2 h) (fE PP (2) k_X0_lossBits 38 (fun v => [.inr (18, 0), .inl (.int v), av0])) := by
  unfold b_X0_lossBits_13
  refine S_br 5 38 18 [.inr (18, 0), .inl (.int x1), .inl (.int x2)] [] h rfl (fun _ => ?_) (fun _ => ?_)
  · exact S_ex x1 (fun v => [.inr (18, 0), .inl (.int v), av0]) rfl
  · refine S_di 3 21 0 1 [.inr (18, 0), .inl (.int x1), .inl (.int x2)] [.inl (.int x2), .inr (18, 0), .inl (.int x1)] [.inr (18, 0), .inl (.int x2)] [.inr (18, 0), .inl (.int x1), .inl (.int x2)] [.inl (.int x1)] h rfl rfl pp_0 (by decide) (s_X0_isUsable x2 h) (fun y1 h2 => ?_)
    refine S_br 1 33 23 [.inr (18, 0), .inl (.int x1), .inl (.int x2)] [.inl (.int x1)] h2 rfl (fun _ => ?_) (fun _ => ?_)
    · refine S_blk 5 (13, [.inr (18, 0), .inl (.int (x1 &&& (-1 : Int32))), .inl (.int (x2 + (1 : Int32)))], [], h2) rfl ?_
      refine S_nrm [.inr (18, 0), .inl (.int (x1 &&& (-1 : Int32))), .inl (.int (x2 + (1 : Int32)))] rfl ?_
      exact hrc (x1 &&& (-1 : Int32)) (x2 + (1 : Int32)) h2
    · refine S_grd 6 (29, [.inr (18, 0), .inl (.int x1), .inl (.int x2)], [.inl (.int (h2.1 15 0 x2.toNatClampNeg)), .inl (.int (1 : Int32)), .inl (.int x1)], h2) rfl (fun _ => ?_)
      refine S_blk 8 (13, [.inr (18, 0), .inl (.int (x1 &&& (((1 : Int32) <<< ((h2.1 15 0 x2.toNatClampNeg) &&& 31)) ^^^ (-1 : Int32)))), .inl (.int (x2 + (1 : Int32)))], [], h2) rfl ?_
      refine S_nrm [.inr (18, 0), .inl (.int (x1 &&& (((1 : Int32) <<< ((h2.1 15 0 x2.toNatClampNeg) &&& 31)) ^^^ (-1 : Int32)))), .inl (.int (x2 + (1 : Int32)))] rfl ?_
      exact hrc (x1 &&& (((1 : Int32) <<< ((h2.1 15 0 x2.toNatClampNeg) &&& 31)) ^^^ (-1 : Int32))) (x2 + (1 : Int32)) h2
theorem sl_X0_lossBits_13     : ∀ (F : Nat) (x1 : Int32) (x2 : Int32) (h : AH), Sim PP (2) k_X0_lossBits (13, [.inr (18, 0), .inl (.int x1), .inl (.int x2)], [], h) (l_X0_lossBits_13 F x1 x2 h) (fE PP (2) k_X0_lossBits 38 (fun v => [.inr (18, 0), .inl (.int v), av0])) := by
  intro F
  induction F with
  | zero => intro x1 x2 h; exact S_none
  | succ F ih => intro x1 x2 h; exact sb_X0_lossBits_13 (l_X0_lossBits_13 F) x1 x2 ih h
theorem sc_X0_lossBits_38    (x1 : Int32)  (h : AH) : Sim PP (2) k_X0_lossBits (38, [.inr (18, 0), .inl (.int x1), av0], [], h) (c_X0_lossBits_38  x1 h) fI := by
  unfold c_X0_lossBits_38
  refine S_di 4 42 51 1 [.inr (18, 0), .inl (.int x1), av0] [.inl (.int (2 : Int32)), .inr (12, 0), .inl (.int x1)] [.inr (12, 0), .inl (.int (2 : Int32))] [.inr (18, 0), .inl (.int x1), av0] [.inl (.int x1)] h rfl rfl pp_51 (by decide) (s_X6_bitsOf 0 (2 : Int32) h) (fun y1 h2 => ?_)
  exact S_ri 1 (44, [.inr (18, 0), .inl (.int x1), av0], [.inl (.int (x1 ||| y1))], h2) rfl rfl
theorem s_X0_lossBits  (h : AH) : Sim PP (2) k_X0_lossBits (0, [.inr (18, 0), av0, av0], [], h) (f_X0_lossBits  h) fI := by
  unfold f_X0_lossBits
  refine S_di 2 2 50 0 [.inr (18, 0), av0, av0] [.inr (12, 0)] [.inr (12, 0)] [.inr (18, 0), av0, av0] [] h rfl rfl pp_50 (by decide) (s_X6_allBits 0 h) (fun y1 h2 => ?_)
  refine S_di 3 6 51 1 [.inr (18, 0), av0, av0] [.inl (.int (1 : Int32)), .inr (12, 0), .inl (.int y1)] [.inr (12, 0), .inl (.int (1 : Int32))] [.inr (18, 0), av0, av0] [.inl (.int y1)] h2 rfl rfl pp_51 (by decide) (s_X6_bitsOf 0 (1 : Int32) h2) (fun y3 h4 => ?_)
  refine S_blk 6 (13, [.inr (18, 0), .inl (.int (y1 &&& (y3 ^^^ (-1 : Int32)))), .inl (.int (0 : Int32))], [], h4) rfl ?_
  refine S_nrm [.inr (18, 0), .inl (.int (y1 &&& (y3 ^^^ (-1 : Int32)))), .inl (.int (0 : Int32))] rfl ?_
  refine S_lp 38 (fun v => [.inr (18, 0), .inl (.int v), av0]) (sl_X0_lossBits_13  FU (y1 &&& (y3 ^^^ (-1 : Int32))) (0 : Int32) h4) (fun v h => ?_)
  exact sc_X0_lossBits_38 v h
theorem s_X0_fallingWithout (x1 : Int32) (h : AH) : Sim PP (4) k_X0_fallingWithout (0, [.inr (18, 0), .inl (.int x1)], [], h) (f_X0_fallingWithout x1 h) fI := by
  unfold f_X0_fallingWithout
  refine S_di 1 1 7 3 [.inr (18, 0), .inl (.int x1)] [.inr (18, 0)] [.inr (18, 0)] [.inr (18, 0), .inl (.int x1)] [] h rfl rfl pp_7 (by decide) (s_X0_standing  h) (fun y1 h2 => ?_)
  refine S_di 9 11 8 2 [.inr (18, 0), .inl (.int x1)] [.inl (.int (-1 : Int32)), .inl (.int ((h2.1 8 3 3) ||| ((1 : Int32) <<< (x1 &&& 31)))), .inr (18, 0), .inl (.int y1)] [.inr (18, 0), .inl (.int ((h2.1 8 3 3) ||| ((1 : Int32) <<< (x1 &&& 31)))), .inl (.int (-1 : Int32)), av0, av0, av0, av0, av0, av0] [.inr (18, 0), .inl (.int x1)] [.inl (.int y1)] h2 rfl rfl pp_8 (by decide) (s_X0_standingBy ((h2.1 8 3 3) ||| ((1 : Int32) <<< (x1 &&& 31))) (-1 : Int32) h2) (fun y3 h4 => ?_)
  exact S_ri 9 (21, [.inr (18, 0), .inl (.int x1)], [.inl (.int ((y1 &&& (y3 ^^^ (-1 : Int32))) &&& (((1 : Int32) <<< (x1 &&& 31)) ^^^ (-1 : Int32))))], h4) rfl rfl
theorem s_X11_mark (x1 : Int32) (x2 : Int32) (h : AH) : Sim PP (5) k_X11_mark (0, [.inr (0, 0), .inl (.int x1), .inl (.int x2)], [], h) (f_X11_mark x1 x2 h) fI := by
  unfold f_X11_mark
  refine S_di 2 2 136 0 [.inr (0, 0), .inl (.int x1), .inl (.int x2)] [.inl (.int x1), .inr (0, 0)] [.inr (0, 0), .inl (.int x1)] [.inr (0, 0), .inl (.int x1), .inl (.int x2)] [] h rfl rfl pp_136 (by decide) (s_X11_isClaim x1 h) (fun y1 h2 => ?_)
  refine S_br 1 10 4 [.inr (0, 0), .inl (.int x1), .inl (.int x2)] [] h2 rfl (fun _ => ?_) (fun _ => ?_)
  · exact S_ri 1 (11, [.inr (0, 0), .inl (.int x1), .inl (.int x2)], [.inl (.int (-1 : Int32))], h2) rfl rfl
  · refine S_br 3 10 7 [.inr (0, 0), .inl (.int x1), .inl (.int x2)] [] h2 rfl (fun _ => ?_) (fun _ => ?_)
    · exact S_ri 1 (11, [.inr (0, 0), .inl (.int x1), .inl (.int x2)], [.inl (.int (-1 : Int32))], h2) rfl rfl
    · refine S_br 3 12 10 [.inr (0, 0), .inl (.int x1), .inl (.int x2)] [] h2 rfl (fun _ => ?_) (fun _ => ?_)
      · refine S_di 3 15 51 1 [.inr (0, 0), .inl (.int x1), .inl (.int x2)] [.inl (.int x2), .inr (12, 0)] [.inr (12, 0), .inl (.int x2)] [.inr (0, 0), .inl (.int x1), .inl (.int x2)] [] h2 rfl rfl pp_51 (by decide) (s_X6_bitsOf 0 x2 h2) (fun y3 h4 => ?_)
        refine S_di 1 17 138 0 [.inr (0, 0), .inl (.int x1), .inl (.int x2)] [.inl (.int x1), .inl (.int y3)] [.inl (.int y3), .inl (.int x1)] [.inr (0, 0), .inl (.int x1), .inl (.int x2)] [] h4 rfl rfl pp_138 (by decide) (s_X11_has y3 x1 h4) (fun y5 h6 => ?_)
        refine S_br 1 19 23 [.inr (0, 0), .inl (.int x1), .inl (.int x2)] [] h6 rfl (fun _ => ?_) (fun _ => ?_)
        · refine S_di 2 21 131 0 [.inr (0, 0), .inl (.int x1), .inl (.int x2)] [.inl (.int (3 : Int32)), .inr (0, 0)] [.inr (0, 0), .inl (.int (3 : Int32))] [.inr (0, 0), .inl (.int x1), .inl (.int x2)] [] h6 rfl rfl pp_131 (by decide) (s_X11_refuse (3 : Int32) h6) (fun y7 h8 => ?_)
          exact S_ri 0 (22, [.inr (0, 0), .inl (.int x1), .inl (.int x2)], [.inl (.int y7)], h8) rfl rfl
        · refine S_blk 2 (if x2 = 1 then 25 else if x2 = 2 then 31 else if x2 = 3 then 42 else if x2 = 4 then 48 else 54, [.inr (0, 0), .inl (.int x1), .inl (.int x2)], [], h6) rfl ?_
          refine S_ite (fun _ => ?_) (fun _ => ?_)
          · refine S_di 3 28 53 1 [.inr (0, 0), .inl (.int x1), .inl (.int x2)] [.inl (.int x1), .inr (12, 0)] [.inr (12, 0), .inl (.int x1), av0, av0] [.inr (0, 0), .inl (.int x1), .inl (.int x2)] [] h6 rfl rfl pp_53 (by decide) (s_X6_reasonsWith 0 x1 h6) (fun y9 h10 => ?_)
            refine S_di 0 29 271 0 [.inr (0, 0), .inl (.int x1), .inl (.int x2)] [.inl (.int y9)] [.inl (.int y9)] [.inr (0, 0), .inl (.int x1), .inl (.int x2)] [] h10 rfl rfl pp_271 (by decide) (s_J6_bitCount_0f7a4 y9 h10) (fun y11 h12 => ?_)
            exact S_ri 0 (30, [.inr (0, 0), .inl (.int x1), .inl (.int x2)], [.inl (.int y11)], h12) rfl rfl
          · refine S_ite (fun _ => ?_) (fun _ => ?_)
            · refine S_di 2 33 2 2 [.inr (0, 0), .inl (.int x1), .inl (.int x2)] [.inr (18, 0)] [.inr (18, 0), av0, av0] [.inr (0, 0), .inl (.int x1), .inl (.int x2)] [] h6 rfl rfl pp_2 (by decide) (s_X0_lossBits  h6) (fun y13 h14 => ?_)
              refine S_di 6 40 271 0 [.inr (0, 0), .inl (.int x1), .inl (.int x2)] [.inl (.int (y13 &&& ((h14.1 8 3 3) ^^^ (-1 : Int32))))] [.inl (.int (y13 &&& ((h14.1 8 3 3) ^^^ (-1 : Int32))))] [.inr (0, 0), .inl (.int x1), .inl (.int x2)] [] h14 rfl rfl pp_271 (by decide) (s_J6_bitCount_0f7a4 (y13 &&& ((h14.1 8 3 3) ^^^ (-1 : Int32))) h14) (fun y15 h16 => ?_)
              exact S_ri 0 (41, [.inr (0, 0), .inl (.int x1), .inl (.int x2)], [.inl (.int y15)], h16) rfl rfl
            · refine S_ite (fun _ => ?_) (fun _ => ?_)
              · refine S_di 3 45 9 4 [.inr (0, 0), .inl (.int x1), .inl (.int x2)] [.inl (.int x1), .inr (18, 0)] [.inr (18, 0), .inl (.int x1)] [.inr (0, 0), .inl (.int x1), .inl (.int x2)] [] h6 rfl rfl pp_9 (by decide) (s_X0_fallingWithout x1 h6) (fun y17 h18 => ?_)
                refine S_di 0 46 271 0 [.inr (0, 0), .inl (.int x1), .inl (.int x2)] [.inl (.int y17)] [.inl (.int y17)] [.inr (0, 0), .inl (.int x1), .inl (.int x2)] [] h18 rfl rfl pp_271 (by decide) (s_J6_bitCount_0f7a4 y17 h18) (fun y19 h20 => ?_)
                exact S_ri 0 (47, [.inr (0, 0), .inl (.int x1), .inl (.int x2)], [.inl (.int y19)], h20) rfl rfl
              · refine S_ite (fun _ => ?_) (fun _ => ?_)
                · refine S_di 4 52 139 0 [.inr (0, 0), .inl (.int x1), .inl (.int x2)] [.inl (.int x1), .inl (.int (h6.1 8 3 4))] [.inl (.int (h6.1 8 3 4)), .inl (.int x1)] [.inr (0, 0), .inl (.int x1), .inl (.int x2)] [] h6 rfl rfl pp_139 (by decide) (s_X11_bit (h6.1 8 3 4) x1 h6) (fun y21 h22 => ?_)
                  exact S_ri 0 (53, [.inr (0, 0), .inl (.int x1), .inl (.int x2)], [.inl (.int y21)], h22) rfl rfl
                · refine S_di 3 57 51 1 [.inr (0, 0), .inl (.int x1), .inl (.int x2)] [.inl (.int (3 : Int32)), .inr (12, 0)] [.inr (12, 0), .inl (.int (3 : Int32))] [.inr (0, 0), .inl (.int x1), .inl (.int x2)] [] h6 rfl rfl pp_51 (by decide) (s_X6_bitsOf 0 (3 : Int32) h6) (fun y23 h24 => ?_)
                  refine S_di 0 58 271 0 [.inr (0, 0), .inl (.int x1), .inl (.int x2)] [.inl (.int y23)] [.inl (.int y23)] [.inr (0, 0), .inl (.int x1), .inl (.int x2)] [] h24 rfl rfl pp_271 (by decide) (s_J6_bitCount_0f7a4 y23 h24) (fun y25 h26 => ?_)
                  exact S_ri 0 (59, [.inr (0, 0), .inl (.int x1), .inl (.int x2)], [.inl (.int y25)], h26) rfl rfl
      · exact S_ri 1 (11, [.inr (0, 0), .inl (.int x1), .inl (.int x2)], [.inl (.int (-1 : Int32))], h2) rfl rfl
theorem sb_X12_bits_4  (rc : Int32 → Int32 → AH → Option (Int32 × AH)) (x1 : Int32) (x2 : Int32) (hrc : ∀ (x1 : Int32) (x2 : Int32) (h : AH), Sim PP (0) k_X12_bits (4, [av0, .inl (.int x1), .inl (.int x2)], [], h) (rc x1 x2 h) (fE PP (0) k_X12_bits 14 (fun v => [av0, .inl (.int v), av0])))  (h : AH) : Sim PP (0) k_X12_bits (4, [av0, .inl (.int x1), .inl (.int x2)], [], h) (b_X12_bits_4 rc x1 x2 h) (fE PP (0) k_X12_bits 14 (fun v => [av0, .inl (.int v), av0])) := by
  unfold b_X12_bits_4
  refine S_br 2 14 6 [av0, .inl (.int x1), .inl (.int x2)] [] h rfl (fun _ => ?_) (fun _ => ?_)
  · exact S_ex x1 (fun v => [av0, .inl (.int v), av0]) rfl
  · refine S_blk 8 (4, [av0, .inl (.int (x1 + (1 : Int32))), .inl (.int (x2 &&& (x2 - (1 : Int32))))], [], h) rfl ?_
    refine S_nrm [av0, .inl (.int (x1 + (1 : Int32))), .inl (.int (x2 &&& (x2 - (1 : Int32))))] rfl ?_
    exact hrc (x1 + (1 : Int32)) (x2 &&& (x2 - (1 : Int32))) h
theorem sl_X12_bits_4     : ∀ (F : Nat) (x1 : Int32) (x2 : Int32) (h : AH), Sim PP (0) k_X12_bits (4, [av0, .inl (.int x1), .inl (.int x2)], [], h) (l_X12_bits_4 F x1 x2 h) (fE PP (0) k_X12_bits 14 (fun v => [av0, .inl (.int v), av0])) := by
  intro F
  induction F with
  | zero => intro x1 x2 h; exact S_none
  | succ F ih => intro x1 x2 h; exact sb_X12_bits_4 (l_X12_bits_4 F) x1 x2 ih h
theorem sc_X12_bits_14    (x1 : Int32)  (h : AH) : Sim PP (0) k_X12_bits (14, [av0, .inl (.int x1), av0], [], h) (c_X12_bits_14  x1 h) fI := by
  unfold c_X12_bits_14
  exact S_ri 1 (15, [av0, .inl (.int x1), av0], [.inl (.int x1)], h) rfl rfl
theorem s_X12_bits (x0 : Int32) (h : AH) : Sim PP (0) k_X12_bits (0, [.inl (.int x0), av0, av0], [], h) (f_X12_bits x0 h) fI := by
  unfold f_X12_bits
  refine S_blk 4 (4, [.inl (.int x0), .inl (.int (0 : Int32)), .inl (.int x0)], [], h) rfl ?_
  refine S_nrm [av0, .inl (.int (0 : Int32)), .inl (.int x0)] rfl ?_
  refine S_lp 14 (fun v => [av0, .inl (.int v), av0]) (sl_X12_bits_4  FU (0 : Int32) x0 h) (fun v h => ?_)
  exact sc_X12_bits_14 v h
theorem sb_X12_usableFor_4  (rc : Int32 → Int32 → Int32 → AH → Option (Int32 × AH)) (x1 : Int32) (x2 : Int32) (x3 : Int32) (hrc : ∀ (x2 : Int32) (x3 : Int32) (h : AH), Sim PP (1) k_X12_usableFor (4, [.inr (34, 0), .inl (.int x1), .inl (.int x2), .inl (.int x3)], [], h) (rc x1 x2 x3 h) (fE PP (1) k_X12_usableFor 28 (fun v => [av0, av0, .inl (.int v), av0])))  (h : AH) : Sim PP (1) k_X12_usableFor (4, [.inr (34, 0), .inl (.int x1), .inl (.int x2), .inl (.int x3)], [], h) (b_X12_usableFor_4 rc x1 x2 x3 h) (fE PP (1) k_X12_usableFor 28 (fun v => [av0, av0, .inl (.int v), av0])) := by
  unfold b_X12_usableFor_4
  refine S_br 4 28 8 [.inr (34, 0), .inl (.int x1), .inl (.int x2), .inl (.int x3)] [] h rfl (fun _ => ?_) (fun _ => ?_)
  · exact S_ex x2 (fun v => [av0, av0, .inl (.int v), av0]) rfl
  · refine S_grd 5 (13, [.inr (34, 0), .inl (.int x1), .inl (.int x2), .inl (.int x3)], [.inl (.int (h.1 42 0 x3.toNatClampNeg)), .inl (.int x2)], h) rfl (fun _ => ?_)
    refine S_br 2 15 23 [.inr (34, 0), .inl (.int x1), .inl (.int x2), .inl (.int x3)] [.inl (.int x2)] h rfl (fun _ => ?_) (fun _ => ?_)
    · refine S_di 2 17 197 0 [.inr (34, 0), .inl (.int x1), .inl (.int x2), .inl (.int x3)] [.inl (.int x3), .inr (34, 0), .inl (.int x2)] [.inr (34, 0), .inl (.int x3)] [.inr (34, 0), .inl (.int x1), .inl (.int x2), .inl (.int x3)] [.inl (.int x2)] h rfl rfl pp_197 (by decide) (s_X12_isUsable x3 h) (fun y1 h2 => ?_)
      refine S_br 1 23 19 [.inr (34, 0), .inl (.int x1), .inl (.int x2), .inl (.int x3)] [.inl (.int x2)] h2 rfl (fun _ => ?_) (fun _ => ?_)
      · refine S_blk 5 (4, [.inr (34, 0), .inl (.int x1), .inl (.int (x2 ||| (0 : Int32))), .inl (.int (x3 + (1 : Int32)))], [], h2) rfl ?_
        refine S_nrm [.inr (34, 0), .inl (.int x1), .inl (.int (x2 ||| (0 : Int32))), .inl (.int (x3 + (1 : Int32)))] rfl ?_
        exact hrc (x2 ||| (0 : Int32)) (x3 + (1 : Int32)) h2
      · refine S_blk 8 (4, [.inr (34, 0), .inl (.int x1), .inl (.int (x2 ||| ((1 : Int32) <<< (x3 &&& 31)))), .inl (.int (x3 + (1 : Int32)))], [], h2) rfl ?_
        refine S_nrm [.inr (34, 0), .inl (.int x1), .inl (.int (x2 ||| ((1 : Int32) <<< (x3 &&& 31)))), .inl (.int (x3 + (1 : Int32)))] rfl ?_
        exact hrc (x2 ||| ((1 : Int32) <<< (x3 &&& 31))) (x3 + (1 : Int32)) h2
    · refine S_blk 5 (4, [.inr (34, 0), .inl (.int x1), .inl (.int (x2 ||| (0 : Int32))), .inl (.int (x3 + (1 : Int32)))], [], h) rfl ?_
      refine S_nrm [.inr (34, 0), .inl (.int x1), .inl (.int (x2 ||| (0 : Int32))), .inl (.int (x3 + (1 : Int32)))] rfl ?_
      exact hrc (x2 ||| (0 : Int32)) (x3 + (1 : Int32)) h
theorem sl_X12_usableFor_4    (x1 : Int32) : ∀ (F : Nat) (x2 : Int32) (x3 : Int32) (h : AH), Sim PP (1) k_X12_usableFor (4, [.inr (34, 0), .inl (.int x1), .inl (.int x2), .inl (.int x3)], [], h) (l_X12_usableFor_4 F x1 x2 x3 h) (fE PP (1) k_X12_usableFor 28 (fun v => [av0, av0, .inl (.int v), av0])) := by
  intro F
  induction F with
  | zero => intro x2 x3 h; exact S_none
  | succ F ih => intro x2 x3 h; exact sb_X12_usableFor_4 (l_X12_usableFor_4 F) x1 x2 x3 ih h
theorem sc_X12_usableFor_28    (x2 : Int32)  (h : AH) : Sim PP (1) k_X12_usableFor (28, [av0, av0, .inl (.int x2), av0], [], h) (c_X12_usableFor_28  x2 h) fI := by
  unfold c_X12_usableFor_28
  exact S_ri 1 (29, [av0, av0, .inl (.int x2), av0], [.inl (.int x2)], h) rfl rfl
theorem s_X12_usableFor (x1 : Int32) (h : AH) : Sim PP (1) k_X12_usableFor (0, [.inr (34, 0), .inl (.int x1), av0, av0], [], h) (f_X12_usableFor x1 h) fI := by
  unfold f_X12_usableFor
  refine S_blk 4 (4, [.inr (34, 0), .inl (.int x1), .inl (.int (0 : Int32)), .inl (.int (0 : Int32))], [], h) rfl ?_
  refine S_nrm [.inr (34, 0), .inl (.int x1), .inl (.int (0 : Int32)), .inl (.int (0 : Int32))] rfl ?_
  refine S_lp 28 (fun v => [av0, av0, .inl (.int v), av0]) (sl_X12_usableFor_4 x1 FU (0 : Int32) (0 : Int32) h) (fun v h => ?_)
  exact sc_X12_usableFor_28 v h
theorem s_X12_isAtLoss (x1 : Int32) (h : AH) : Sim PP (2) k_X12_isAtLoss (0, [.inr (34, 0), .inl (.int x1)], [], h) (f_X12_isAtLoss x1 h) fI := by
  unfold f_X12_isAtLoss
  refine S_grd 4 (4, [.inr (34, 0), .inl (.int x1)], [.inl (.int (h.1 41 0 x1.toNatClampNeg))], h) rfl (fun _ => ?_)
  refine S_br 2 16 6 [.inr (34, 0), .inl (.int x1)] [] h rfl (fun _ => ?_) (fun _ => ?_)
  · exact S_ri 2 (19, [.inr (34, 0), .inl (.int x1)], [.inl (.int (1 : Int32))], h) rfl rfl
  · refine S_grd 4 (10, [.inr (34, 0), .inl (.int x1)], [.inl (.int (h.1 41 0 x1.toNatClampNeg))], h) rfl (fun _ => ?_)
    refine S_br 2 18 12 [.inr (34, 0), .inl (.int x1)] [] h rfl (fun _ => ?_) (fun _ => ?_)
    · exact S_ri 1 (19, [.inr (34, 0), .inl (.int x1)], [.inl (.int (0 : Int32))], h) rfl rfl
    · refine S_di 2 14 198 1 [.inr (34, 0), .inl (.int x1)] [.inl (.int x1), .inr (34, 0)] [.inr (34, 0), .inl (.int x1), av0, av0] [.inr (34, 0), .inl (.int x1)] [] h rfl rfl pp_198 (by decide) (s_X12_usableFor x1 h) (fun y1 h2 => ?_)
      refine S_br 1 16 18 [.inr (34, 0), .inl (.int x1)] [] h2 rfl (fun _ => ?_) (fun _ => ?_)
      · exact S_ri 2 (19, [.inr (34, 0), .inl (.int x1)], [.inl (.int (1 : Int32))], h2) rfl rfl
      · exact S_ri 1 (19, [.inr (34, 0), .inl (.int x1)], [.inl (.int (0 : Int32))], h2) rfl rfl
