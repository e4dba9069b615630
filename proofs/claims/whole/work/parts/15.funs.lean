/-! ===== what each method does, as a function ===== -/
def FU : Nat := 5000
def lt {α β : Type} (e : α) (K : α → β) : β := K e
def bd {α β : Type} (o : Option (α × AH)) (K : α → AH → Option β) : Option β := o.bind (fun y => K y.1 y.2)
def f_X11_isRow (x0 : Int32) (h : AH) : Option (Int32 × AH) :=
  (if x0 < 0 then some (zn (0 : Int32), h) else (if (6 : Int32) ≤ x0 then some (zn (0 : Int32), h) else some (zn (1 : Int32), h)))
def b_J7_fill_53178_cells_5 (rc : Nat → Int32 → Int32 → Int32 → AH → Option (Unit × AH)) (r0 : Nat) (x1 : Int32) (x2 : Int32) (x3 : Int32) (h : AH) : Option (Unit × AH) :=
  (if x3 ≤ x2 then some ((), h) else (if inb x2 40 = true then rc r0 x1 (x2 + (1 : Int32)) x3 (hsI h 3 r0 x2.toNatClampNeg x1) else none))
def l_J7_fill_53178_cells_5 : Nat → Nat → Int32 → Int32 → Int32 → AH → Option (Unit × AH)
  | 0 => fun _ _ _ _ _ => none
  | F + 1 => b_J7_fill_53178_cells_5 (l_J7_fill_53178_cells_5 F)
def c_J7_fill_53178_cells_14   (h : AH) : Option (Unit × AH) :=
  some ((), h)
def f_J7_fill_53178_cells (r0 : Nat) (x1 : Int32) (h : AH) : Option (Unit × AH) :=
  bd (l_J7_fill_53178_cells_5 FU r0 x1 (0 : Int32) (nI 40) h) (fun v h => c_J7_fill_53178_cells_14 h)
def f_X5_renew (r0 : Nat) (x1 : Int32) (h : AH) : Option (Unit × AH) :=
  bd (f_J7_fill_53178_cells r0 (0 : Int32) (hsI h 2 r0 1 x1)) (fun _ h2 => some ((), h2))
def f_X11_refuse (x1 : Int32) (h : AH) : Option (Int32 × AH) :=
  (if x1 < (1 : Int32) then some ((-3 : Int32), (hsI h 0 0 13 x1)) else (if (5 : Int32) < x1 then some ((-3 : Int32), (hsI h 0 0 13 x1)) else (if inb x1 6 = true then (if inb x1 6 = true then some ((-3 : Int32), (hsI (hsI h 0 0 13 x1) 33 0 x1.toNatClampNeg (((hsI h 0 0 13 x1).1 33 0 x1.toNatClampNeg) + (1 : Int32)))) else none) else none)))
def f_X11_row (x1 : Int32) (x2 : Int32) (h : AH) : Option (Int32 × AH) :=
  bd (f_X11_isRow x1 h) (fun y1 h2 => (if y1 = 0 then some ((-1 : Int32), h2) else (if x2 ≤ (40 : Int32) then (if 0 ≤ x2 then (if inb x1 6 = true then bd (f_X5_renew (x1.toNatClampNeg) x2 h2) (fun _ h4 => some (x2, h4)) else none) else bd (f_X11_refuse (5 : Int32) h2) (fun y5 h6 => some (y5, h6))) else some ((-1 : Int32), h2))))
def f_X12_in (x0 : Int32) (x1 : Int32) (x2 : Int32) (h : AH) : Option (Int32 × AH) :=
  (if x0 < x1 then some (zn (0 : Int32), h) else (if x2 < x0 then some (zn (0 : Int32), h) else some (zn (1 : Int32), h)))
def f_X12_isRow (x0 : Int32) (h : AH) : Option (Int32 × AH) :=
  bd (f_X12_in x0 (0 : Int32) (5 : Int32) h) (fun y1 h2 => some (zn y1, h2))
def f_X12_meets (x1 : Int32) (h : AH) : Option (Int32 × AH) :=
  (if inb x1 6 = true then (if inb x1 6 = true then some ((-3 : Int32), (hsI (hsI h 34 0 0 x1) 35 0 x1.toNatClampNeg (((hsI h 34 0 0 x1).1 35 0 x1.toNatClampNeg) + (1 : Int32)))) else none) else none)
def b_X12_row_21 (rc : Int32 → Int32 → Int32 → AH → Option (Unit × AH)) (x1 : Int32) (x2 : Int32) (x3 : Int32) (h : AH) : Option (Unit × AH) :=
  (if (40 : Int32) ≤ x3 then some ((), h) else (if inb (((40 : Int32) * x1) + x3) 240 = true then rc x1 x2 (x3 + (1 : Int32)) (hsI h 37 0 (((40 : Int32) * x1) + x3).toNatClampNeg (0 : Int32)) else none))
def l_X12_row_21 : Nat → Int32 → Int32 → Int32 → AH → Option (Unit × AH)
  | 0 => fun _ _ _ _ => none
  | F + 1 => b_X12_row_21 (l_X12_row_21 F)
def c_X12_row_35  (x2 : Int32) (h : AH) : Option (Int32 × AH) :=
  some (x2, h)
def f_X12_row (x1 : Int32) (x2 : Int32) (h : AH) : Option (Int32 × AH) :=
  bd (f_X12_isRow x1 h) (fun y1 h2 => (if y1 = 0 then some ((-1 : Int32), h2) else (if x2 ≤ (40 : Int32) then (if 0 ≤ x2 then (if inb x1 6 = true then bd (l_X12_row_21 FU x1 x2 (0 : Int32) (hsI h2 36 0 x1.toNatClampNeg x2)) (fun v h => c_X12_row_35 x2 h) else none) else bd (f_X12_meets (5 : Int32) h2) (fun y3 h4 => some (y3, h4))) else some ((-1 : Int32), h2))))
def f_X5_isMissing (r0 : Nat) (h : AH) : Option (Int32 × AH) :=
  (if (h.1 2 r0 1) = (-1 : Int32) then some (zn (1 : Int32), h) else some (zn (0 : Int32), h))
def f_X5_spans (r0 : Nat) (x1 : Int32) (x2 : Int32) (h : AH) : Option (Int32 × AH) :=
  (if x1 < 0 then some (zn (0 : Int32), h) else (if (h.1 2 r0 1) < x2 then some (zn (0 : Int32), h) else (if ((h.1 2 r0 1) - x2) < x1 then some (zn (0 : Int32), h) else some (zn (1 : Int32), h))))
def f_X11_lay (x1 : Int32) (x2 : Int32) (x3 : Int32) (h : AH) : Option (Int32 × AH) :=
  bd (f_X11_isRow x1 h) (fun y1 h2 => (if y1 = 0 then some ((-1 : Int32), h2) else (if inb x1 6 = true then bd (f_X5_isMissing (x1.toNatClampNeg) h2) (fun y3 h4 => (if y3 = 0 then bd (f_X5_spans (x1.toNatClampNeg) x2 (1 : Int32) h4) (fun y5 h6 => (if y5 = 0 then bd (f_X11_refuse (2 : Int32) h6) (fun y7 h8 => some (y7, h8)) else (if inb x2 40 = true then (if inb x2 40 = true then some ((1 : Int32), (hsI (hsI h6 0 0 14 (h6.1 3 (x1.toNatClampNeg) x2.toNatClampNeg)) 3 (x1.toNatClampNeg) x2.toNatClampNeg x3)) else none) else none))) else bd (f_X11_refuse (1 : Int32) h4) (fun y9 h10 => some (y9, h10)))) else none)))
def f_X12_rowAt (x1 : Int32) (x2 : Int32) (h : AH) : Option (Int32 × AH) :=
  (if inb (((40 : Int32) * x1) + x2) 240 = true then some ((h.1 37 0 (((40 : Int32) * x1) + x2).toNatClampNeg), h) else none)
def f_X12_tells (x1 : Int32) (x2 : Int32) (h : AH) : Option (Int32 × AH) :=
  some (x2, (hsI h 34 0 2 x1))
def f_X12_lay (x1 : Int32) (x2 : Int32) (x3 : Int32) (h : AH) : Option (Int32 × AH) :=
  bd (f_X12_isRow x1 h) (fun y1 h2 => (if y1 = 0 then some ((-1 : Int32), h2) else (if inb x1 6 = true then (if 0 ≤ (h2.1 36 0 x1.toNatClampNeg) then (if inb x1 6 = true then bd (f_X12_in x2 (0 : Int32) ((h2.1 36 0 x1.toNatClampNeg) - (1 : Int32)) h2) (fun y3 h4 => (if y3 = 0 then bd (f_X12_meets (2 : Int32) h4) (fun y5 h6 => some (y5, h6)) else bd (f_X12_rowAt x1 x2 h4) (fun y7 h8 => (if inb (((40 : Int32) * x1) + x2) 240 = true then bd (f_X12_tells y7 (1 : Int32) (hsI h8 37 0 (((40 : Int32) * x1) + x2).toNatClampNeg x3)) (fun y9 h10 => some (y9, h10)) else none)))) else none) else bd (f_X12_meets (1 : Int32) h2) (fun y11 h12 => some (y11, h12))) else none)))
def f_X11_at (x1 : Int32) (x2 : Int32) (h : AH) : Option (Int32 × AH) :=
  bd (f_X11_isRow x1 h) (fun y1 h2 => (if y1 = 0 then some ((-1 : Int32), h2) else (if inb x1 6 = true then bd (f_X5_isMissing (x1.toNatClampNeg) h2) (fun y3 h4 => (if y3 = 0 then bd (f_X5_spans (x1.toNatClampNeg) x2 (1 : Int32) h4) (fun y5 h6 => (if y5 = 0 then bd (f_X11_refuse (2 : Int32) h6) (fun y7 h8 => some (y7, h8)) else (if inb x2 40 = true then some ((1 : Int32), (hsI h6 0 0 14 (h6.1 3 (x1.toNatClampNeg) x2.toNatClampNeg))) else none))) else bd (f_X11_refuse (1 : Int32) h4) (fun y9 h10 => some (y9, h10)))) else none)))
def f_X12_at (x1 : Int32) (x2 : Int32) (h : AH) : Option (Int32 × AH) :=
  bd (f_X12_isRow x1 h) (fun y1 h2 => (if y1 = 0 then some ((-1 : Int32), h2) else (if inb x1 6 = true then (if 0 ≤ (h2.1 36 0 x1.toNatClampNeg) then (if inb x1 6 = true then bd (f_X12_in x2 (0 : Int32) ((h2.1 36 0 x1.toNatClampNeg) - (1 : Int32)) h2) (fun y3 h4 => (if y3 = 0 then bd (f_X12_meets (2 : Int32) h4) (fun y5 h6 => some (y5, h6)) else bd (f_X12_rowAt x1 x2 h4) (fun y7 h8 => bd (f_X12_tells y7 (1 : Int32) h8) (fun y9 h10 => some (y9, h10))))) else none) else bd (f_X12_meets (1 : Int32) h2) (fun y11 h12 => some (y11, h12))) else none)))
def f_X11_tear (x1 : Int32) (h : AH) : Option (Int32 × AH) :=
  bd (f_X11_isRow x1 h) (fun y1 h2 => (if y1 = 0 then some ((-1 : Int32), h2) else (if inb x1 6 = true then bd (f_X5_isMissing (x1.toNatClampNeg) h2) (fun y3 h4 => (if y3 = 0 then (if inb x1 6 = true then some ((1 : Int32), (hsI h4 2 (x1.toNatClampNeg) 1 (-1 : Int32))) else none) else bd (f_X11_refuse (1 : Int32) h4) (fun y5 h6 => some (y5, h6)))) else none)))
def f_X12_tear (x1 : Int32) (h : AH) : Option (Int32 × AH) :=
  bd (f_X12_isRow x1 h) (fun y1 h2 => (if y1 = 0 then some ((-1 : Int32), h2) else (if inb x1 6 = true then (if 0 ≤ (h2.1 36 0 x1.toNatClampNeg) then (if inb x1 6 = true then some ((1 : Int32), (hsI h2 36 0 x1.toNatClampNeg (-1 : Int32))) else none) else bd (f_X12_meets (1 : Int32) h2) (fun y3 h4 => some (y3, h4))) else none)))
def f_X11_copy (x1 : Int32) (x2 : Int32) (x3 : Int32) (x4 : Int32) (x5 : Int32) (h : AH) : Option (Int32 × AH) :=
  bd (f_X11_isRow x1 h) (fun y1 h2 => (if y1 = 0 then some ((-1 : Int32), h2) else bd (f_X11_isRow x3 h2) (fun y3 h4 => (if y3 = 0 then some ((-1 : Int32), h4) else (if 0 ≤ x5 then (if inb x1 6 = true then (if inb x3 6 = true then bd (f_X5_isMissing (x1.toNatClampNeg) h4) (fun y5 h6 => (if y5 = 0 then bd (f_X5_isMissing (x3.toNatClampNeg) h6) (fun y7 h8 => (if y7 = 0 then bd (f_X5_spans (x1.toNatClampNeg) x2 x5 h8) (fun y9 h10 => (if y9 = 0 then bd (f_X11_refuse (2 : Int32) h10) (fun y11 h12 => some (y11, h12)) else bd (f_X5_spans (x3.toNatClampNeg) x4 x5 h10) (fun y13 h14 => (if y13 = 0 then bd (f_X11_refuse (2 : Int32) h14) (fun y15 h16 => some (y15, h16)) else (if (¬ x2 < 0 ∧ ¬ x4 < 0 ∧ ¬ x5 < 0) ∧ x2.toNatClampNeg + x5.toNatClampNeg ≤ 40 ∧ x4.toNatClampNeg + x5.toNatClampNeg ≤ 40 then some ((1 : Int32), (hcp h14 3 (x1.toNatClampNeg) 3 (x3.toNatClampNeg) x2.toNatClampNeg x4.toNatClampNeg x5.toNatClampNeg)) else none))))) else bd (f_X11_refuse (1 : Int32) h8) (fun y17 h18 => some (y17, h18)))) else bd (f_X11_refuse (1 : Int32) h6) (fun y19 h20 => some (y19, h20)))) else none) else none) else bd (f_X11_refuse (5 : Int32) h4) (fun y21 h22 => some (y21, h22)))))))
def b_X12_copy_62 (rc : Int32 → Int32 → Int32 → Int32 → Int32 → Int32 → AH → Option (Unit × AH)) (x1 : Int32) (x2 : Int32) (x3 : Int32) (x4 : Int32) (x5 : Int32) (x6 : Int32) (h : AH) : Option (Unit × AH) :=
  (if x5 ≤ x6 then some ((), h) else bd (f_X12_rowAt x1 (x2 + x6) h) (fun y1 h2 => (if inb x6 40 = true then rc x1 x2 x3 x4 x5 (x6 + (1 : Int32)) (hsI h2 38 0 x6.toNatClampNeg y1) else none)))
def l_X12_copy_62 : Nat → Int32 → Int32 → Int32 → Int32 → Int32 → Int32 → AH → Option (Unit × AH)
  | 0 => fun _ _ _ _ _ _ _ => none
  | F + 1 => b_X12_copy_62 (l_X12_copy_62 F)
def b_X12_copy_79 (rc : Int32 → Int32 → Int32 → Int32 → AH → Option (Unit × AH)) (x3 : Int32) (x4 : Int32) (x5 : Int32) (x6 : Int32) (h : AH) : Option (Unit × AH) :=
  (if x5 ≤ x6 then some ((), h) else (if inb x6 40 = true then (if inb ((((40 : Int32) * x3) + x4) + x6) 240 = true then rc x3 x4 x5 (x6 + (1 : Int32)) (hsI h 37 0 ((((40 : Int32) * x3) + x4) + x6).toNatClampNeg (h.1 38 0 x6.toNatClampNeg)) else none) else none))
def l_X12_copy_79 : Nat → Int32 → Int32 → Int32 → Int32 → AH → Option (Unit × AH)
  | 0 => fun _ _ _ _ _ => none
  | F + 1 => b_X12_copy_79 (l_X12_copy_79 F)
def c_X12_copy_98   (h : AH) : Option (Int32 × AH) :=
  some ((1 : Int32), h)
def c_X12_copy_77  (x3 : Int32) (x4 : Int32) (x5 : Int32) (h : AH) : Option (Int32 × AH) :=
  bd (l_X12_copy_79 FU x3 x4 x5 (0 : Int32) h) (fun v h => c_X12_copy_98 h)
def f_X12_copy (x1 : Int32) (x2 : Int32) (x3 : Int32) (x4 : Int32) (x5 : Int32) (h : AH) : Option (Int32 × AH) :=
  bd (f_X12_isRow x1 h) (fun y1 h2 => (if y1 = 0 then some ((-1 : Int32), h2) else bd (f_X12_isRow x3 h2) (fun y3 h4 => (if y3 = 0 then some ((-1 : Int32), h4) else (if 0 ≤ x5 then (if inb x1 6 = true then (if (h4.1 36 0 x1.toNatClampNeg) < 0 then bd (f_X12_meets (1 : Int32) h4) (fun y5 h6 => some (y5, h6)) else (if inb x3 6 = true then (if 0 ≤ (h4.1 36 0 x3.toNatClampNeg) then (if x2 < 0 then bd (f_X12_meets (2 : Int32) h4) (fun y7 h8 => some (y7, h8)) else (if x4 < 0 then bd (f_X12_meets (2 : Int32) h4) (fun y9 h10 => some (y9, h10)) else (if inb x1 6 = true then (if 0 < (lg_cmp (x2.toInt64 + x5.toInt64) ((h4.1 36 0 x1.toNatClampNeg).toInt64)) then bd (f_X12_meets (2 : Int32) h4) (fun y11 h12 => some (y11, h12)) else (if inb x3 6 = true then (if (lg_cmp (x4.toInt64 + x5.toInt64) ((h4.1 36 0 x3.toNatClampNeg).toInt64)) ≤ 0 then bd (l_X12_copy_62 FU x1 x2 x3 x4 x5 (0 : Int32) h4) (fun v h => c_X12_copy_77 x3 x4 x5 h) else bd (f_X12_meets (2 : Int32) h4) (fun y13 h14 => some (y13, h14))) else none)) else none))) else bd (f_X12_meets (1 : Int32) h4) (fun y15 h16 => some (y15, h16))) else none)) else none) else bd (f_X12_meets (5 : Int32) h4) (fun y17 h18 => some (y17, h18)))))))
def b_X5_sum_4 (rc : Nat → Int64 → Int32 → AH → Option (Int64 × AH)) (r0 : Nat) (x1 : Int64) (x3 : Int32) (h : AH) : Option (Int64 × AH) :=
  (if (h.1 2 r0 1) ≤ x3 then some (x1, h) else (if inb x3 40 = true then rc r0 (x1 + ((h.1 3 r0 x3.toNatClampNeg).toInt64)) (x3 + (1 : Int32)) h else none))
def l_X5_sum_4 : Nat → Nat → Int64 → Int32 → AH → Option (Int64 × AH)
  | 0 => fun _ _ _ _ => none
  | F + 1 => b_X5_sum_4 (l_X5_sum_4 F)
def c_X5_sum_18  (x1 : Int64) (h : AH) : Option (Int64 × AH) :=
  some (x1, h)
def f_X5_sum (r0 : Nat) (h : AH) : Option (Int64 × AH) :=
  bd (l_X5_sum_4 FU r0 (0 : Int64) (0 : Int32) h) (fun v h => c_X5_sum_18 v h)
def f_X11_mean (x1 : Int32) (h : AH) : Option (Int32 × AH) :=
  bd (f_X11_isRow x1 h) (fun y1 h2 => (if y1 = 0 then some ((-1 : Int32), h2) else (if inb x1 6 = true then bd (f_X5_isMissing (x1.toNatClampNeg) h2) (fun y3 h4 => (if y3 = 0 then (if (h4.1 2 (x1.toNatClampNeg) 1) = 0 then bd (f_X11_refuse (4 : Int32) h4) (fun y5 h6 => some (y5, h6)) else bd (f_X5_sum (x1.toNatClampNeg) h4) (fun y7 h8 => (if (h8.1 2 (x1.toNatClampNeg) 1).toInt64 = 0 then none else some ((1 : Int32), (hsI h8 0 0 14 ((y7 / ((h8.1 2 (x1.toNatClampNeg) 1).toInt64)).toInt32)))))) else bd (f_X11_refuse (1 : Int32) h4) (fun y9 h10 => some (y9, h10)))) else none)))
def b_X12_mean_27 (rc : Int32 → Int64 → Int32 → AH → Option (Int64 × AH)) (x1 : Int32) (x2 : Int64) (x4 : Int32) (h : AH) : Option (Int64 × AH) :=
  (if inb x1 6 = true then (if (h.1 36 0 x1.toNatClampNeg) ≤ x4 then some (x2, h) else bd (f_X12_rowAt x1 x4 h) (fun y1 h2 => rc x1 (x2 + y1.toInt64) (x4 + (1 : Int32)) h2)) else none)
def l_X12_mean_27 : Nat → Int32 → Int64 → Int32 → AH → Option (Int64 × AH)
  | 0 => fun _ _ _ _ => none
  | F + 1 => b_X12_mean_27 (l_X12_mean_27 F)
def c_X12_mean_43  (x1 : Int32) (x2 : Int64) (h : AH) : Option (Int32 × AH) :=
  (if inb x1 6 = true then (if (h.1 36 0 x1.toNatClampNeg).toInt64 = 0 then none else bd (f_X12_tells ((x2 / ((h.1 36 0 x1.toNatClampNeg).toInt64)).toInt32) (1 : Int32) h) (fun y1 h2 => some (y1, h2))) else none)
def f_X12_mean (x1 : Int32) (h : AH) : Option (Int32 × AH) :=
  bd (f_X12_isRow x1 h) (fun y1 h2 => (if y1 = 0 then some ((-1 : Int32), h2) else (if inb x1 6 = true then (if 0 ≤ (h2.1 36 0 x1.toNatClampNeg) then (if inb x1 6 = true then (if (h2.1 36 0 x1.toNatClampNeg) = 0 then bd (f_X12_meets (4 : Int32) h2) (fun y3 h4 => some (y3, h4)) else bd (l_X12_mean_27 FU x1 (0 : Int64) (0 : Int32) h2) (fun v h => c_X12_mean_43 x1 v h)) else none) else bd (f_X12_meets (1 : Int32) h2) (fun y5 h6 => some (y5, h6))) else none)))
def f_X11_isText (x0 : Int32) (h : AH) : Option (Int32 × AH) :=
  (if x0 < 0 then some (zn (0 : Int32), h) else (if (4 : Int32) ≤ x0 then some (zn (0 : Int32), h) else some (zn (1 : Int32), h)))
def b_J7_fill_031fb_signs_5 (rc : Nat → Int32 → Int32 → Int32 → AH → Option (Unit × AH)) (r0 : Nat) (x1 : Int32) (x2 : Int32) (x3 : Int32) (h : AH) : Option (Unit × AH) :=
  (if x3 ≤ x2 then some ((), h) else (if inb x2 80 = true then rc r0 x1 (x2 + (1 : Int32)) x3 (hsI h 6 r0 x2.toNatClampNeg x1.toInt8.toInt32) else none))
def l_J7_fill_031fb_signs_5 : Nat → Nat → Int32 → Int32 → Int32 → AH → Option (Unit × AH)
  | 0 => fun _ _ _ _ _ => none
  | F + 1 => b_J7_fill_031fb_signs_5 (l_J7_fill_031fb_signs_5 F)
def c_J7_fill_031fb_signs_14   (h : AH) : Option (Unit × AH) :=
  some ((), h)
def f_J7_fill_031fb_signs (r0 : Nat) (x1 : Int32) (h : AH) : Option (Unit × AH) :=
  bd (l_J7_fill_031fb_signs_5 FU r0 x1 (0 : Int32) (nI 80) h) (fun v h => c_J7_fill_031fb_signs_14 h)
def f_X9_renew (r0 : Nat) (x1 : Int32) (h : AH) : Option (Unit × AH) :=
  bd (f_J7_fill_031fb_signs r0 (32 : Int32) (hsI h 5 r0 1 x1)) (fun _ h2 => some ((), h2))
def f_X11_text (x1 : Int32) (x2 : Int32) (h : AH) : Option (Int32 × AH) :=
  bd (f_X11_isText x1 h) (fun y1 h2 => (if y1 = 0 then some ((-1 : Int32), h2) else (if x2 ≤ (80 : Int32) then (if 0 ≤ x2 then (if inb x1 4 = true then bd (f_X9_renew (x1.toNatClampNeg) x2 h2) (fun _ h4 => some (x2, h4)) else none) else bd (f_X11_refuse (5 : Int32) h2) (fun y5 h6 => some (y5, h6))) else some ((-1 : Int32), h2))))
def f_X12_isText (x0 : Int32) (h : AH) : Option (Int32 × AH) :=
  bd (f_X12_in x0 (0 : Int32) (3 : Int32) h) (fun y1 h2 => some (zn y1, h2))
def b_X12_text_21 (rc : Int32 → Int32 → Int32 → AH → Option (Unit × AH)) (x1 : Int32) (x2 : Int32) (x3 : Int32) (h : AH) : Option (Unit × AH) :=
  (if (80 : Int32) ≤ x3 then some ((), h) else (if inb (((80 : Int32) * x1) + x3) 320 = true then rc x1 x2 (x3 + (1 : Int32)) (hsI h 40 0 (((80 : Int32) * x1) + x3).toNatClampNeg (32 : Int32).toInt8.toInt32) else none))
def l_X12_text_21 : Nat → Int32 → Int32 → Int32 → AH → Option (Unit × AH)
  | 0 => fun _ _ _ _ => none
  | F + 1 => b_X12_text_21 (l_X12_text_21 F)
def c_X12_text_35  (x2 : Int32) (h : AH) : Option (Int32 × AH) :=
  some (x2, h)
def f_X12_text (x1 : Int32) (x2 : Int32) (h : AH) : Option (Int32 × AH) :=
  bd (f_X12_isText x1 h) (fun y1 h2 => (if y1 = 0 then some ((-1 : Int32), h2) else (if x2 ≤ (80 : Int32) then (if 0 ≤ x2 then (if inb x1 4 = true then bd (l_X12_text_21 FU x1 x2 (0 : Int32) (hsI h2 39 0 x1.toNatClampNeg x2)) (fun v h => c_X12_text_35 x2 h) else none) else bd (f_X12_meets (5 : Int32) h2) (fun y3 h4 => some (y3, h4))) else some ((-1 : Int32), h2))))
def f_X9_isMissing (r0 : Nat) (h : AH) : Option (Int32 × AH) :=
  (if (h.1 5 r0 1) = (-1 : Int32) then some (zn (1 : Int32), h) else some (zn (0 : Int32), h))
def f_X11_put (x1 : Int32) (x2 : Int32) (x3 : Int32) (h : AH) : Option (Int32 × AH) :=
  bd (f_X11_isText x1 h) (fun y1 h2 => (if y1 = 0 then some ((-1 : Int32), h2) else (if inb x1 4 = true then bd (f_X9_isMissing (x1.toNatClampNeg) h2) (fun y3 h4 => (if y3 = 0 then (if x2 < 0 then bd (f_X11_refuse (2 : Int32) h4) (fun y5 h6 => some (y5, h6)) else (if x2 < (h4.1 5 (x1.toNatClampNeg) 1) then (if inb x2 80 = true then (if inb x2 80 = true then some (((h4.1 6 (x1.toNatClampNeg) x2.toNatClampNeg) + (1000 : Int32)), (hsI h4 6 (x1.toNatClampNeg) x2.toNatClampNeg x3.toInt8.toInt32.toInt8.toInt32)) else none) else none) else bd (f_X11_refuse (2 : Int32) h4) (fun y7 h8 => some (y7, h8)))) else bd (f_X11_refuse (1 : Int32) h4) (fun y9 h10 => some (y9, h10)))) else none)))
def f_X12_put (x1 : Int32) (x2 : Int32) (x3 : Int32) (h : AH) : Option (Int32 × AH) :=
  bd (f_X12_isText x1 h) (fun y1 h2 => (if y1 = 0 then some ((-1 : Int32), h2) else (if inb x1 4 = true then (if 0 ≤ (h2.1 39 0 x1.toNatClampNeg) then (if inb x1 4 = true then bd (f_X12_in x2 (0 : Int32) ((h2.1 39 0 x1.toNatClampNeg) - (1 : Int32)) h2) (fun y3 h4 => (if y3 = 0 then bd (f_X12_meets (2 : Int32) h4) (fun y5 h6 => some (y5, h6)) else (if inb (((80 : Int32) * x1) + x2) 320 = true then (if inb (((80 : Int32) * x1) + x2) 320 = true then some (((1000 : Int32) + (h4.1 40 0 (((80 : Int32) * x1) + x2).toNatClampNeg)), (hsI h4 40 0 (((80 : Int32) * x1) + x2).toNatClampNeg x3.toInt8.toInt32.toInt8.toInt32)) else none) else none))) else none) else bd (f_X12_meets (1 : Int32) h2) (fun y7 h8 => some (y7, h8))) else none)))
def b_J7_fill_53178_kindBits_5 (rc : Nat → Int32 → Int32 → Int32 → AH → Option (Unit × AH)) (r0 : Nat) (x1 : Int32) (x2 : Int32) (x3 : Int32) (h : AH) : Option (Unit × AH) :=
  (if x3 ≤ x2 then some ((), h) else (if inb x2 6 = true then rc r0 x1 (x2 + (1 : Int32)) x3 (hsI h 14 r0 x2.toNatClampNeg x1) else none))
def l_J7_fill_53178_kindBits_5 : Nat → Nat → Int32 → Int32 → Int32 → AH → Option (Unit × AH)
  | 0 => fun _ _ _ _ _ => none
  | F + 1 => b_J7_fill_53178_kindBits_5 (l_J7_fill_53178_kindBits_5 F)
def c_J7_fill_53178_kindBits_14   (h : AH) : Option (Unit × AH) :=
  some ((), h)
def f_J7_fill_53178_kindBits (r0 : Nat) (x1 : Int32) (h : AH) : Option (Unit × AH) :=
  bd (l_J7_fill_53178_kindBits_5 FU r0 x1 (0 : Int32) (nI 6) h) (fun v h => c_J7_fill_53178_kindBits_14 h)
def f_X6_clear (r0 : Nat) (h : AH) : Option (Unit × AH) :=
  bd (f_J7_fill_53178_kindBits r0 (0 : Int32) (hsI (hsI h 12 r0 5 (0 : Int32)) 12 r0 6 (0 : Int32))) (fun _ h2 => some ((), h2))
def f_X9_signAt (r0 : Nat) (x1 : Int32) (h : AH) : Option (Int32 × AH) :=
  (if x1 < 0 then some ((-9 : Int32), h) else (if (h.1 5 r0 1) ≤ x1 then some ((-9 : Int32), h) else (if inb x1 80 = true then some ((h.1 6 r0 x1.toNatClampNeg), h) else none)))
def b_X4_passBlanks_2 (rc : Nat → Int32 → AH → Option (Unit × AH)) (r1 : Nat) (x2 : Int32) (h : AH) : Option (Unit × AH) :=
  (if (80 : Int32) ≤ x2 then some ((), h) else bd (f_X9_signAt r1 (h.1 11 0 1) h) (fun y1 h2 => (if y1 = (32 : Int32) then rc r1 (x2 + (1 : Int32)) (hsI h2 11 0 1 ((h2.1 11 0 1) + (1 : Int32))) else some ((), h2))))
def l_X4_passBlanks_2 : Nat → Nat → Int32 → AH → Option (Unit × AH)
  | 0 => fun _ _ _ => none
  | F + 1 => b_X4_passBlanks_2 (l_X4_passBlanks_2 F)
def c_X4_passBlanks_19   (h : AH) : Option (Unit × AH) :=
  some ((), h)
def f_X4_passBlanks (r1 : Nat) (h : AH) : Option (Unit × AH) :=
  bd (l_X4_passBlanks_2 FU r1 (0 : Int32) h) (fun v h => c_X4_passBlanks_19 h)
def f_X9_figureAt (r0 : Nat) (x1 : Int32) (h : AH) : Option (Int32 × AH) :=
  bd (f_X9_signAt r0 x1 h) (fun y1 h2 => (if y1 < (48 : Int32) then some ((-9 : Int32), h2) else (if (57 : Int32) < y1 then some ((-9 : Int32), h2) else some ((y1 - (48 : Int32)), h2))))
def f_X6_allBits (r0 : Nat) (h : AH) : Option (Int32 × AH) :=
  some ((((1 : Int32) <<< ((h.1 12 r0 5) &&& 31)) - (1 : Int32)), h)
def f_X6_bitsOf (r0 : Nat) (x1 : Int32) (h : AH) : Option (Int32 × AH) :=
  (if x1 = 1 then some (((h.1 14 r0 (1 : Int32).toNatClampNeg) ||| (h.1 14 r0 (2 : Int32).toNatClampNeg)), h) else (if x1 = 2 then some ((h.1 14 r0 (2 : Int32).toNatClampNeg), h) else (if x1 = 3 then some (((h.1 14 r0 (3 : Int32).toNatClampNeg) ||| (h.1 14 r0 (5 : Int32).toNatClampNeg)), h) else (if x1 = 4 then some ((h.1 14 r0 (4 : Int32).toNatClampNeg), h) else (if x1 = 5 then some ((h.1 14 r0 (5 : Int32).toNatClampNeg), h) else bd (f_X6_allBits r0 h) (fun y1 h2 => some (y1, h2)))))))
def f_X11_has (x0 : Int32) (x1 : Int32) (h : AH) : Option (Int32 × AH) :=
  (if ((x0 >>> (x1 &&& 31)) &&& (1 : Int32)) = (1 : Int32) then some (zn (1 : Int32), h) else some (zn (0 : Int32), h))
def b_X6_reasonsFor_4 (rc : Nat → Int32 → Int32 → Int32 → AH → Option (Int32 × AH)) (r0 : Nat) (x1 : Int32) (x2 : Int32) (x3 : Int32) (h : AH) : Option (Int32 × AH) :=
  (if (h.1 12 r0 6) ≤ x3 then some (x2, h) else (if inb x3 14 = true then (if (h.1 15 r0 x3.toNatClampNeg) = x1 then rc r0 x1 (x2 ||| ((1 : Int32) <<< (x3 &&& 31))) (x3 + (1 : Int32)) h else rc r0 x1 (x2 ||| (0 : Int32)) (x3 + (1 : Int32)) h) else none))
def l_X6_reasonsFor_4 : Nat → Nat → Int32 → Int32 → Int32 → AH → Option (Int32 × AH)
  | 0 => fun _ _ _ _ _ => none
  | F + 1 => b_X6_reasonsFor_4 (l_X6_reasonsFor_4 F)
def c_X6_reasonsFor_24  (x2 : Int32) (h : AH) : Option (Int32 × AH) :=
  some (x2, h)
def f_X6_reasonsFor (r0 : Nat) (x1 : Int32) (h : AH) : Option (Int32 × AH) :=
  bd (l_X6_reasonsFor_4 FU r0 x1 (0 : Int32) (0 : Int32) h) (fun v h => c_X6_reasonsFor_24 v h)
def f_J6_bitCount_0f7a4 (x0 : Int32) (h : AH) : Option (Int32 × AH) :=
  lt (((x0 - (((x0.toUInt32 >>> ((1 : Int32).toUInt32 &&& Int32.toUInt32 31)).toInt32) &&& (1431655765 : Int32))) &&& (858993459 : Int32)) + ((((x0 - (((x0.toUInt32 >>> ((1 : Int32).toUInt32 &&& Int32.toUInt32 31)).toInt32) &&& (1431655765 : Int32))).toUInt32 >>> ((2 : Int32).toUInt32 &&& Int32.toUInt32 31)).toInt32) &&& (858993459 : Int32))) (fun z1 => lt (((z1 + ((z1.toUInt32 >>> ((4 : Int32).toUInt32 &&& Int32.toUInt32 31)).toInt32)) &&& (252645135 : Int32)) + ((((z1 + ((z1.toUInt32 >>> ((4 : Int32).toUInt32 &&& Int32.toUInt32 31)).toInt32)) &&& (252645135 : Int32)).toUInt32 >>> ((8 : Int32).toUInt32 &&& Int32.toUInt32 31)).toInt32)) (fun z2 => some (((z2 + ((z2.toUInt32 >>> ((16 : Int32).toUInt32 &&& Int32.toUInt32 31)).toInt32)) &&& (63 : Int32)), h)))
def f_X6_takesReason (r0 : Nat) (x1 : Int32) (h : AH) : Option (Int32 × AH) :=
  (if x1 < 0 then some (zn (0 : Int32), h) else (if (h.1 12 r0 5) ≤ x1 then some (zn (0 : Int32), h) else bd (f_X6_bitsOf r0 (1 : Int32) h) (fun y1 h2 => bd (f_X11_has y1 x1 h2) (fun y3 h4 => (if y3 = 0 then bd (f_X6_reasonsFor r0 x1 h4) (fun y5 h6 => bd (f_J6_bitCount_0f7a4 y5 h6) (fun y7 h8 => (if (4 : Int32) ≤ y7 then some (zn (0 : Int32), h8) else some (zn (1 : Int32), h8)))) else some (zn (0 : Int32), h4))))))
def b_X4_readParts_4 (rc : Nat → Int32 → Int32 → Int32 → Int32 → AH → Option (Int32 × AH)) (r1 : Nat) (x2 : Int32) (x3 : Int32) (x4 : Int32) (x5 : Int32) (h : AH) : Option (Int32 × AH) :=
  (if x3 ≤ x5 then some (x4, h) else bd (f_X9_figureAt r1 (h.1 11 0 1) h) (fun y1 h2 => (if y1 < 0 then some ((0 : Int32), h2) else (if (h2.1 12 1 5) ≤ y1 then some ((0 : Int32), h2) else (if y1 = x2 then some ((0 : Int32), h2) else bd (f_X11_has x4 y1 h2) (fun y3 h4 => (if y3 = 0 then rc r1 x2 x3 (x4 ||| ((1 : Int32) <<< (y1 &&& 31))) (x5 + (1 : Int32)) (hsI h4 11 0 1 ((h4.1 11 0 1) + (1 : Int32))) else some ((0 : Int32), h4))))))))
def l_X4_readParts_4 : Nat → Nat → Int32 → Int32 → Int32 → Int32 → AH → Option (Int32 × AH)
  | 0 => fun _ _ _ _ _ _ => none
  | F + 1 => b_X4_readParts_4 (l_X4_readParts_4 F)
def f_X4_readParts (r1 : Nat) (x2 : Int32) (x3 : Int32) (h : AH) : Option (Int32 × AH) :=
  l_X4_readParts_4 FU r1 x2 x3 (0 : Int32) (0 : Int32) h
def f_X6_addReason (r0 : Nat) (x1 : Int32) (x2 : Int32) (x3 : Int32) (h : AH) : Option (Int32 × AH) :=
  (if (h.1 12 r0 6) < (14 : Int32) then (if inb (h.1 12 r0 6) 14 = true then (if inb ((hsI h 15 r0 (h.1 12 r0 6).toNatClampNeg x1).1 12 r0 6) 14 = true then (if inb ((hsI (hsI h 15 r0 (h.1 12 r0 6).toNatClampNeg x1) 16 r0 ((hsI h 15 r0 (h.1 12 r0 6).toNatClampNeg x1).1 12 r0 6).toNatClampNeg x2).1 12 r0 6) 14 = true then some (zn (1 : Int32), (hsI (hsI (hsI (hsI h 15 r0 (h.1 12 r0 6).toNatClampNeg x1) 16 r0 ((hsI h 15 r0 (h.1 12 r0 6).toNatClampNeg x1).1 12 r0 6).toNatClampNeg x2) 17 r0 ((hsI (hsI h 15 r0 (h.1 12 r0 6).toNatClampNeg x1) 16 r0 ((hsI h 15 r0 (h.1 12 r0 6).toNatClampNeg x1).1 12 r0 6).toNatClampNeg x2).1 12 r0 6).toNatClampNeg x3) 12 r0 6 (((hsI (hsI (hsI h 15 r0 (h.1 12 r0 6).toNatClampNeg x1) 16 r0 ((hsI h 15 r0 (h.1 12 r0 6).toNatClampNeg x1).1 12 r0 6).toNatClampNeg x2) 17 r0 ((hsI (hsI h 15 r0 (h.1 12 r0 6).toNatClampNeg x1) 16 r0 ((hsI h 15 r0 (h.1 12 r0 6).toNatClampNeg x1).1 12 r0 6).toNatClampNeg x2).1 12 r0 6).toNatClampNeg x3).1 12 r0 6) + (1 : Int32)))) else none) else none) else none) else some (zn (0 : Int32), h))
def f_X4_readReason (r1 : Nat) (h : AH) : Option (Int32 × AH) :=
  (if (h.1 12 1 5) = 0 then some (zn (0 : Int32), h) else (if (h.1 12 1 6) < (14 : Int32) then bd (f_X9_figureAt r1 ((hsI h 11 0 1 ((h.1 11 0 1) + (1 : Int32))).1 11 0 1) (hsI h 11 0 1 ((h.1 11 0 1) + (1 : Int32)))) (fun y1 h2 => bd (f_X6_takesReason 1 y1 h2) (fun y3 h4 => (if y3 = 0 then some (zn (0 : Int32), h4) else bd (f_X9_figureAt r1 ((hsI h4 11 0 1 ((h4.1 11 0 1) + (1 : Int32))).1 11 0 1) (hsI h4 11 0 1 ((h4.1 11 0 1) + (1 : Int32)))) (fun y5 h6 => (if y5 < (1 : Int32) then some (zn (0 : Int32), h6) else (if y5 ≤ (3 : Int32) then bd (f_X4_readParts r1 y1 y5 (hsI h6 11 0 1 ((h6.1 11 0 1) + (1 : Int32)))) (fun y7 h8 => bd (f_X9_figureAt r1 (h8.1 11 0 1) h8) (fun y9 h10 => (if y7 = 0 then some (zn (0 : Int32), h10) else (if (1 : Int32) ≤ y9 then bd (f_X6_addReason 1 y1 y7 y9 (hsI h10 11 0 1 ((h10.1 11 0 1) + (1 : Int32)))) (fun y11 h12 => some (zn y11, h12)) else some (zn (0 : Int32), h10))))) else some (zn (0 : Int32), h6))))))) else some (zn (0 : Int32), h)))
def f_X4_kindOf (x0 : Int32) (h : AH) : Option (Int32 × AH) :=
  (if x0 = 97 then some ((3 : Int32), h) else (if x0 = 98 then some ((-9 : Int32), h) else (if x0 = 99 then some ((0 : Int32), h) else (if x0 = 100 then some ((-9 : Int32), h) else (if x0 = 101 then some ((1 : Int32), h) else (if x0 = 102 then some ((-9 : Int32), h) else (if x0 = 103 then some ((-9 : Int32), h) else (if x0 = 104 then some ((4 : Int32), h) else (if x0 = 105 then some ((-9 : Int32), h) else (if x0 = 106 then some ((-9 : Int32), h) else (if x0 = 107 then some ((-9 : Int32), h) else (if x0 = 108 then some ((2 : Int32), h) else (if x0 = 109 then some ((5 : Int32), h) else some ((-9 : Int32), h))))))))))))))
def f_X6_addClaim (r0 : Nat) (x1 : Int32) (h : AH) : Option (Int32 × AH) :=
  (if (10 : Int32) ≤ (h.1 12 r0 5) then some (zn (0 : Int32), h) else (if x1 < 0 then some (zn (0 : Int32), h) else (if x1 < (6 : Int32) then (if inb (h.1 12 r0 5) 10 = true then (if inb x1 6 = true then (if inb x1 6 = true then some (zn (1 : Int32), (hsI (hsI (hsI h 13 r0 (h.1 12 r0 5).toNatClampNeg x1) 14 r0 x1.toNatClampNeg (((hsI h 13 r0 (h.1 12 r0 5).toNatClampNeg x1).1 14 r0 x1.toNatClampNeg) ||| ((1 : Int32) <<< (((hsI h 13 r0 (h.1 12 r0 5).toNatClampNeg x1).1 12 r0 5) &&& 31)))) 12 r0 5 (((hsI (hsI h 13 r0 (h.1 12 r0 5).toNatClampNeg x1) 14 r0 x1.toNatClampNeg (((hsI h 13 r0 (h.1 12 r0 5).toNatClampNeg x1).1 14 r0 x1.toNatClampNeg) ||| ((1 : Int32) <<< (((hsI h 13 r0 (h.1 12 r0 5).toNatClampNeg x1).1 12 r0 5) &&& 31)))).1 12 r0 5) + (1 : Int32)))) else none) else none) else none) else some (zn (0 : Int32), h))))
def f_X4_readItem (r1 : Nat) (h : AH) : Option (Int32 × AH) :=
  bd (f_X9_signAt r1 (h.1 11 0 1) h) (fun y1 h2 => (if y1 = (98 : Int32) then bd (f_X4_readReason r1 h2) (fun y3 h4 => some (zn y3, h4)) else bd (f_X4_kindOf y1 h2) (fun y5 h6 => (if y5 = (-9 : Int32) then some (zn (0 : Int32), h6) else (if 0 < (h6.1 12 1 6) then some (zn (0 : Int32), h6) else bd (f_X6_addClaim 1 y5 h6) (fun y7 h8 => (if y7 = 0 then some (zn (0 : Int32), h8) else some (zn (1 : Int32), (hsI h8 11 0 1 ((h8.1 11 0 1) + (1 : Int32)))))))))))
def b_X4_faultOf_8 (rc : Nat → Int32 → AH → Option (Int32 × AH)) (r1 : Nat) (x2 : Int32) (h : AH) : Option (Int32 × AH) :=
  (if (80 : Int32) < x2 then some ((h.1 11 0 1), h) else bd (f_X4_passBlanks r1 h) (fun _ h2 => (if (h2.1 11 0 1) < (h2.1 5 r1 1) then bd (f_X4_readItem r1 h2) (fun y3 h4 => (if y3 = 0 then some ((h4.1 11 0 1), h4) else rc r1 (x2 + (1 : Int32)) h4)) else (if (h2.1 12 1 5) = 0 then some ((h2.1 5 r1 1), h2) else some ((-9 : Int32), h2)))))
def l_X4_faultOf_8 : Nat → Nat → Int32 → AH → Option (Int32 × AH)
  | 0 => fun _ _ _ => none
  | F + 1 => b_X4_faultOf_8 (l_X4_faultOf_8 F)
def f_X4_faultOf (r1 : Nat) (h : AH) : Option (Int32 × AH) :=
  bd (f_X6_clear 1 h) (fun _ h2 => l_X4_faultOf_8 FU r1 (0 : Int32) (hsI h2 11 0 1 (0 : Int32)))
def f_X11_fault (x1 : Int32) (h : AH) : Option (Int32 × AH) :=
  bd (f_X11_isText x1 h) (fun y1 h2 => (if y1 = 0 then some ((-1 : Int32), h2) else (if inb x1 4 = true then bd (f_X9_isMissing (x1.toNatClampNeg) h2) (fun y3 h4 => (if y3 = 0 then (if inb x1 4 = true then bd (f_X4_faultOf (x1.toNatClampNeg) h4) (fun y5 h6 => some (y5, h6)) else none) else bd (f_X11_refuse (1 : Int32) h4) (fun y7 h8 => some (y7, h8)))) else none)))
def f_X12_byteAt (x1 : Int32) (x2 : Int32) (h : AH) : Option (Int32 × AH) :=
  (if inb x1 4 = true then (if (h.1 39 0 x1.toNatClampNeg) ≤ x2 then some ((0 : Int32), h) else (if inb (((80 : Int32) * x1) + x2) 320 = true then some ((h.1 40 0 (((80 : Int32) * x1) + x2).toNatClampNeg), h) else none)) else none)
def f_X12_isEndKind (x0 : Int32) (h : AH) : Option (Int32 × AH) :=
  (if x0 = (1 : Int32) then some (zn (1 : Int32), h) else (if x0 = (2 : Int32) then some (zn (1 : Int32), h) else some (zn (0 : Int32), h)))
def b_X12_readFor_4 (rc : Int32 → Int32 → Int32 → AH → Option (Int32 × AH)) (x1 : Int32) (x2 : Int32) (x3 : Int32) (h : AH) : Option (Int32 × AH) :=
  (if (h.1 34 0 22) ≤ x3 then some (x2, h) else (if inb x3 14 = true then (if (h.1 46 0 x3.toNatClampNeg) = x1 then rc x1 (x2 + (1 : Int32)) (x3 + (1 : Int32)) h else rc x1 (x2 + (0 : Int32)) (x3 + (1 : Int32)) h) else none))
def l_X12_readFor_4 : Nat → Int32 → Int32 → Int32 → AH → Option (Int32 × AH)
  | 0 => fun _ _ _ _ => none
  | F + 1 => b_X12_readFor_4 (l_X12_readFor_4 F)
def c_X12_readFor_22  (x2 : Int32) (h : AH) : Option (Int32 × AH) :=
  some (x2, h)
def f_X12_readFor (x1 : Int32) (h : AH) : Option (Int32 × AH) :=
  bd (l_X12_readFor_4 FU x1 (0 : Int32) (0 : Int32) h) (fun v h => c_X12_readFor_22 v h)
def f_X12_figure (x1 : Int32) (x2 : Int32) (x3 : Int32) (h : AH) : Option (Int32 × AH) :=
  bd (f_X12_byteAt x1 (h.1 34 0 19) h) (fun y1 h2 => bd (f_X12_in ((hsI h2 34 0 20 (y1 - (48 : Int32))).1 34 0 20) x2 x3 (hsI h2 34 0 20 (y1 - (48 : Int32)))) (fun y3 h4 => (if y3 = 0 then some (zn y3, (hsI h4 34 0 19 ((h4.1 34 0 19) + (0 : Int32)))) else some (zn y3, (hsI h4 34 0 19 ((h4.1 34 0 19) + (1 : Int32)))))))
def f_X12_has (x0 : Int32) (x1 : Int32) (h : AH) : Option (Int32 × AH) :=
  (if ((x0 >>> (x1 &&& 31)) &&& (1 : Int32)) = (1 : Int32) then some (zn (1 : Int32), h) else some (zn (0 : Int32), h))
def b_X12_readsReason_63 (rc : Int32 → Int32 → Int32 → Int32 → AH → Option (Int32 × AH)) (x1 : Int32) (x2 : Int32) (x3 : Int32) (x4 : Int32) (h : AH) : Option (Int32 × AH) :=
  (if x4 ≤ 0 then bd (f_X12_figure x1 (1 : Int32) (9 : Int32) h) (fun y1 h2 => (if y1 = 0 then some (zn (0 : Int32), h2) else (if inb (h2.1 34 0 22) 14 = true then (if inb ((hsI h2 46 0 (h2.1 34 0 22).toNatClampNeg x2).1 34 0 22) 14 = true then (if inb ((hsI (hsI h2 46 0 (h2.1 34 0 22).toNatClampNeg x2) 47 0 ((hsI h2 46 0 (h2.1 34 0 22).toNatClampNeg x2).1 34 0 22).toNatClampNeg x3).1 34 0 22) 14 = true then some (zn (1 : Int32), (hsI (hsI (hsI (hsI h2 46 0 (h2.1 34 0 22).toNatClampNeg x2) 47 0 ((hsI h2 46 0 (h2.1 34 0 22).toNatClampNeg x2).1 34 0 22).toNatClampNeg x3) 48 0 ((hsI (hsI h2 46 0 (h2.1 34 0 22).toNatClampNeg x2) 47 0 ((hsI h2 46 0 (h2.1 34 0 22).toNatClampNeg x2).1 34 0 22).toNatClampNeg x3).1 34 0 22).toNatClampNeg ((hsI (hsI h2 46 0 (h2.1 34 0 22).toNatClampNeg x2) 47 0 ((hsI h2 46 0 (h2.1 34 0 22).toNatClampNeg x2).1 34 0 22).toNatClampNeg x3).1 34 0 20)) 34 0 22 (((hsI (hsI (hsI h2 46 0 (h2.1 34 0 22).toNatClampNeg x2) 47 0 ((hsI h2 46 0 (h2.1 34 0 22).toNatClampNeg x2).1 34 0 22).toNatClampNeg x3) 48 0 ((hsI (hsI h2 46 0 (h2.1 34 0 22).toNatClampNeg x2) 47 0 ((hsI h2 46 0 (h2.1 34 0 22).toNatClampNeg x2).1 34 0 22).toNatClampNeg x3).1 34 0 22).toNatClampNeg ((hsI (hsI h2 46 0 (h2.1 34 0 22).toNatClampNeg x2) 47 0 ((hsI h2 46 0 (h2.1 34 0 22).toNatClampNeg x2).1 34 0 22).toNatClampNeg x3).1 34 0 20)).1 34 0 22) + (1 : Int32)))) else none) else none) else none))) else bd (f_X12_byteAt x1 (h.1 34 0 19) h) (fun y3 h4 => bd (f_X12_in (y3 - (48 : Int32)) (0 : Int32) ((h4.1 34 0 21) - (1 : Int32)) h4) (fun y5 h6 => (if y5 = 0 then some (zn (0 : Int32), h6) else (if (y3 - (48 : Int32)) = x2 then some (zn (0 : Int32), h6) else bd (f_X12_has x3 (y3 - (48 : Int32)) h6) (fun y7 h8 => (if y7 = 0 then rc x1 x2 (x3 ||| ((1 : Int32) <<< ((y3 - (48 : Int32)) &&& 31))) (x4 + (-1 : Int32)) (hsI h8 34 0 19 ((h8.1 34 0 19) + (1 : Int32))) else some (zn (0 : Int32), h8))))))))
def l_X12_readsReason_63 : Nat → Int32 → Int32 → Int32 → Int32 → AH → Option (Int32 × AH)
  | 0 => fun _ _ _ _ _ => none
  | F + 1 => b_X12_readsReason_63 (l_X12_readsReason_63 F)
def f_X12_readsReason (x1 : Int32) (h : AH) : Option (Int32 × AH) :=
  (if (h.1 34 0 21) = 0 then some (zn (0 : Int32), h) else (if (h.1 34 0 22) = (14 : Int32) then some (zn (0 : Int32), h) else bd (f_X12_byteAt x1 ((hsI h 34 0 19 ((h.1 34 0 19) + (1 : Int32))).1 34 0 19) (hsI h 34 0 19 ((h.1 34 0 19) + (1 : Int32)))) (fun y1 h2 => bd (f_X12_in (y1 - (48 : Int32)) (0 : Int32) ((h2.1 34 0 21) - (1 : Int32)) h2) (fun y3 h4 => (if y3 = 0 then some (zn (0 : Int32), h4) else (if inb (y1 - (48 : Int32)) 10 = true then bd (f_X12_isEndKind (h4.1 45 0 (y1 - (48 : Int32)).toNatClampNeg) h4) (fun y5 h6 => (if y5 = 0 then bd (f_X12_readFor (y1 - (48 : Int32)) h6) (fun y7 h8 => (if y7 = (4 : Int32) then some (zn (0 : Int32), h8) else bd (f_X12_figure x1 (1 : Int32) (3 : Int32) (hsI h8 34 0 19 ((h8.1 34 0 19) + (1 : Int32)))) (fun y9 h10 => (if y9 = 0 then some (zn (0 : Int32), h10) else l_X12_readsReason_63 FU x1 (y1 - (48 : Int32)) (0 : Int32) (h10.1 34 0 20) h10)))) else some (zn (0 : Int32), h6))) else none))))))
def f_X12_kindOf (x0 : Int32) (h : AH) : Option (Int32 × AH) :=
  (if x0 = 97 then some ((3 : Int32), h) else (if x0 = 98 then some ((-9 : Int32), h) else (if x0 = 99 then some ((0 : Int32), h) else (if x0 = 100 then some ((-9 : Int32), h) else (if x0 = 101 then some ((1 : Int32), h) else (if x0 = 102 then some ((-9 : Int32), h) else (if x0 = 103 then some ((-9 : Int32), h) else (if x0 = 104 then some ((4 : Int32), h) else (if x0 = 105 then some ((-9 : Int32), h) else (if x0 = 106 then some ((-9 : Int32), h) else (if x0 = 107 then some ((-9 : Int32), h) else (if x0 = 108 then some ((2 : Int32), h) else (if x0 = 109 then some ((5 : Int32), h) else some ((-9 : Int32), h))))))))))))))
def f_X12_readsClaim (x1 : Int32) (h : AH) : Option (Int32 × AH) :=
  bd (f_X12_byteAt x1 (h.1 34 0 19) h) (fun y1 h2 => bd (f_X12_kindOf y1 h2) (fun y3 h4 => (if y3 = (-9 : Int32) then some (zn (0 : Int32), h4) else (if (h4.1 34 0 21) = (10 : Int32) then some (zn (0 : Int32), h4) else (if (h4.1 34 0 22) ≤ 0 then (if inb (h4.1 34 0 21) 10 = true then some (zn (1 : Int32), (hsI (hsI (hsI h4 45 0 (h4.1 34 0 21).toNatClampNeg y3) 34 0 21 (((hsI h4 45 0 (h4.1 34 0 21).toNatClampNeg y3).1 34 0 21) + (1 : Int32))) 34 0 19 (((hsI (hsI h4 45 0 (h4.1 34 0 21).toNatClampNeg y3) 34 0 21 (((hsI h4 45 0 (h4.1 34 0 21).toNatClampNeg y3).1 34 0 21) + (1 : Int32))).1 34 0 19) + (1 : Int32)))) else none) else some (zn (0 : Int32), h4))))))
def b_X12_faultOf_9 (rc : Int32 → AH → Option (Int32 × AH)) (x1 : Int32) (h : AH) : Option (Int32 × AH) :=
  (if inb x1 4 = true then (if (h.1 39 0 x1.toNatClampNeg) ≤ (h.1 34 0 19) then (if (h.1 34 0 21) = 0 then (if inb x1 4 = true then some ((h.1 39 0 x1.toNatClampNeg), h) else none) else some ((-9 : Int32), h)) else bd (f_X12_byteAt x1 (h.1 34 0 19) h) (fun y1 h2 => (if y1 = (32 : Int32) then rc x1 (hsI h2 34 0 19 ((h2.1 34 0 19) + (1 : Int32))) else (if y1 = (98 : Int32) then bd (f_X12_readsReason x1 h2) (fun y3 h4 => (if y3 = 0 then some ((h4.1 34 0 19), h4) else rc x1 h4)) else bd (f_X12_readsClaim x1 h2) (fun y5 h6 => (if y5 = 0 then some ((h6.1 34 0 19), h6) else rc x1 h6)))))) else none)
def l_X12_faultOf_9 : Nat → Int32 → AH → Option (Int32 × AH)
  | 0 => fun _ _ => none
  | F + 1 => b_X12_faultOf_9 (l_X12_faultOf_9 F)
def f_X12_faultOf (x1 : Int32) (h : AH) : Option (Int32 × AH) :=
  l_X12_faultOf_9 FU x1 (hsI (hsI (hsI h 34 0 19 (0 : Int32)) 34 0 21 (0 : Int32)) 34 0 22 (0 : Int32))
def f_X12_fault (x1 : Int32) (h : AH) : Option (Int32 × AH) :=
  bd (f_X12_isText x1 h) (fun y1 h2 => (if y1 = 0 then some ((-1 : Int32), h2) else (if inb x1 4 = true then (if 0 ≤ (h2.1 39 0 x1.toNatClampNeg) then bd (f_X12_faultOf x1 h2) (fun y3 h4 => some (y3, h4)) else bd (f_X12_meets (1 : Int32) h2) (fun y5 h6 => some (y5, h6))) else none)))
def f_X6_become (r0 : Nat) (r1 : Nat) (h : AH) : Option (Unit × AH) :=
  some ((), (hcp (hcp (hcp (hcp (hcp (hsI (hsI h 12 r0 5 (h.1 12 r1 5)) 12 r0 6 ((hsI h 12 r0 5 (h.1 12 r1 5)).1 12 r1 6)) 13 r1 13 r0 (0 : Int32).toNatClampNeg (0 : Int32).toNatClampNeg (10 : Int32).toNatClampNeg) 14 r1 14 r0 (0 : Int32).toNatClampNeg (0 : Int32).toNatClampNeg (6 : Int32).toNatClampNeg) 15 r1 15 r0 (0 : Int32).toNatClampNeg (0 : Int32).toNatClampNeg (14 : Int32).toNatClampNeg) 16 r1 16 r0 (0 : Int32).toNatClampNeg (0 : Int32).toNatClampNeg (14 : Int32).toNatClampNeg) 17 r1 17 r0 (0 : Int32).toNatClampNeg (0 : Int32).toNatClampNeg (14 : Int32).toNatClampNeg))
def f_X7_renew (r0 : Nat) (r1 : Nat) (h : AH) : Option (Unit × AH) :=
  some ((), (hcp (hsI (hsI (hsI (hsI h 8 r0 2 (0 : Int32)) 8 r0 3 (0 : Int32)) 8 r0 4 (0 : Int32)) 8 r0 5 (0 : Int32)) 17 r1 9 r0 (0 : Int32).toNatClampNeg (0 : Int32).toNatClampNeg (14 : Int32).toNatClampNeg))
def b_X11_room_39 (rc : Int32 → AH → Option (Unit × AH)) (x2 : Int32) (h : AH) : Option (Unit × AH) :=
  (if (3 : Int32) ≤ x2 then some ((), h) else (if inb x2 3 = true then rc (x2 + (1 : Int32)) (hsI h 8 (x2.toNatClampNeg) 6 (0 : Int32)) else none))
def l_X11_room_39 : Nat → Int32 → AH → Option (Unit × AH)
  | 0 => fun _ _ => none
  | F + 1 => b_X11_room_39 (l_X11_room_39 F)
def c_X11_room_50   (h : AH) : Option (Int32 × AH) :=
  some ((h.1 12 0 5), h)
def f_X11_room (x1 : Int32) (h : AH) : Option (Int32 × AH) :=
  bd (f_X11_isText x1 h) (fun y1 h2 => (if y1 = 0 then some ((-1 : Int32), h2) else (if inb x1 4 = true then bd (f_X9_isMissing (x1.toNatClampNeg) h2) (fun y3 h4 => (if y3 = 0 then (if inb x1 4 = true then bd (f_X4_faultOf (x1.toNatClampNeg) h4) (fun y5 h6 => (if y5 = (-9 : Int32) then bd (f_X6_become 0 1 h6) (fun _ h8 => bd (f_X7_renew 3 0 h8) (fun _ h10 => bd (l_X11_room_39 FU (0 : Int32) h10) (fun v h => c_X11_room_50 h))) else some ((-4 : Int32), h6))) else none) else bd (f_X11_refuse (1 : Int32) h4) (fun y11 h12 => some (y11, h12)))) else none)))
def b_X12_room_31 (rc : Int32 → AH → Option (Unit × AH)) (x2 : Int32) (h : AH) : Option (Unit × AH) :=
  (if (h.1 34 0 10) ≤ x2 then some ((), h) else (if inb x2 10 = true then (if inb x2 10 = true then rc (x2 + (1 : Int32)) (hsI h 41 0 x2.toNatClampNeg (h.1 45 0 x2.toNatClampNeg)) else none) else none))
def l_X12_room_31 : Nat → Int32 → AH → Option (Unit × AH)
  | 0 => fun _ _ => none
  | F + 1 => b_X12_room_31 (l_X12_room_31 F)
def b_X12_room_47 (rc : Int32 → AH → Option (Unit × AH)) (x2 : Int32) (h : AH) : Option (Unit × AH) :=
  (if (h.1 34 0 11) ≤ x2 then some ((), h) else (if inb x2 14 = true then (if inb x2 14 = true then (if inb x2 14 = true then (if inb x2 14 = true then (if inb x2 14 = true then (if inb x2 14 = true then rc (x2 + (1 : Int32)) (hsI (hsI (hsI h 42 0 x2.toNatClampNeg (h.1 46 0 x2.toNatClampNeg)) 43 0 x2.toNatClampNeg ((hsI h 42 0 x2.toNatClampNeg (h.1 46 0 x2.toNatClampNeg)).1 47 0 x2.toNatClampNeg)) 44 0 x2.toNatClampNeg ((hsI (hsI h 42 0 x2.toNatClampNeg (h.1 46 0 x2.toNatClampNeg)) 43 0 x2.toNatClampNeg ((hsI h 42 0 x2.toNatClampNeg (h.1 46 0 x2.toNatClampNeg)).1 47 0 x2.toNatClampNeg)).1 48 0 x2.toNatClampNeg)) else none) else none) else none) else none) else none) else none))
def l_X12_room_47 : Nat → Int32 → AH → Option (Unit × AH)
  | 0 => fun _ _ => none
  | F + 1 => b_X12_room_47 (l_X12_room_47 F)
def b_X12_room_91 (rc : Int32 → AH → Option (Unit × AH)) (x2 : Int32) (h : AH) : Option (Unit × AH) :=
  (if (3 : Int32) ≤ x2 then some ((), h) else (if inb x2 3 = true then rc (x2 + (1 : Int32)) (hsI h 50 0 x2.toNatClampNeg (zn (0 : Int32))) else none))
def l_X12_room_91 : Nat → Int32 → AH → Option (Unit × AH)
  | 0 => fun _ _ => none
  | F + 1 => b_X12_room_91 (l_X12_room_91 F)
def c_X12_room_101   (h : AH) : Option (Int32 × AH) :=
  some ((h.1 34 0 10), h)
def c_X12_room_77   (h : AH) : Option (Int32 × AH) :=
  bd (l_X12_room_91 FU (0 : Int32) (hsI (hsI (hsI (hsI h 34 0 16 (0 : Int32)) 34 0 17 (0 : Int32)) 34 0 18 (0 : Int32)) 34 0 27 (0 : Int32))) (fun v h => c_X12_room_101 h)
def c_X12_room_45   (h : AH) : Option (Int32 × AH) :=
  bd (l_X12_room_47 FU (0 : Int32) h) (fun v h => c_X12_room_77 h)
def f_X12_room (x1 : Int32) (h : AH) : Option (Int32 × AH) :=
  bd (f_X12_isText x1 h) (fun y1 h2 => (if y1 = 0 then some ((-1 : Int32), h2) else (if inb x1 4 = true then (if 0 ≤ (h2.1 39 0 x1.toNatClampNeg) then bd (f_X12_faultOf x1 h2) (fun y3 h4 => (if y3 = (-9 : Int32) then bd (l_X12_room_31 FU (0 : Int32) (hsI (hsI h4 34 0 10 (h4.1 34 0 21)) 34 0 11 ((hsI h4 34 0 10 (h4.1 34 0 21)).1 34 0 22))) (fun v h => c_X12_room_45 h) else some ((-4 : Int32), h4))) else bd (f_X12_meets (1 : Int32) h2) (fun y5 h6 => some (y5, h6))) else none)))
def f_X11_isClaim (x1 : Int32) (h : AH) : Option (Int32 × AH) :=
  (if x1 < 0 then some (zn (0 : Int32), h) else (if (h.1 12 0 5) ≤ x1 then some (zn (0 : Int32), h) else some (zn (1 : Int32), h)))
def b_X6_reasonsWith_4 (rc : Nat → Int32 → Int32 → Int32 → AH → Option (Int32 × AH)) (r0 : Nat) (x1 : Int32) (x2 : Int32) (x3 : Int32) (h : AH) : Option (Int32 × AH) :=
  (if (h.1 12 r0 6) ≤ x3 then some (x2, h) else (if inb x3 14 = true then bd (f_X11_has (h.1 16 r0 x3.toNatClampNeg) x1 h) (fun y1 h2 => (if y1 = 0 then rc r0 x1 (x2 ||| (0 : Int32)) (x3 + (1 : Int32)) h2 else rc r0 x1 (x2 ||| ((1 : Int32) <<< (x3 &&& 31))) (x3 + (1 : Int32)) h2)) else none))
def l_X6_reasonsWith_4 : Nat → Nat → Int32 → Int32 → Int32 → AH → Option (Int32 × AH)
  | 0 => fun _ _ _ _ _ => none
  | F + 1 => b_X6_reasonsWith_4 (l_X6_reasonsWith_4 F)
def c_X6_reasonsWith_25  (x2 : Int32) (h : AH) : Option (Int32 × AH) :=
  some (x2, h)
def f_X6_reasonsWith (r0 : Nat) (x1 : Int32) (h : AH) : Option (Int32 × AH) :=
  bd (l_X6_reasonsWith_4 FU r0 x1 (0 : Int32) (0 : Int32) h) (fun v h => c_X6_reasonsWith_25 v h)
def b_X0_standingBy_29 (rc : Int32 → Int32 → Int32 → Int32 → Int32 → Int32 → AH → Option (Int32 × AH)) (x1 : Int32) (x2 : Int32) (x3 : Int32) (x5 : Int32) (x6 : Int32) (x7 : Int32) (h : AH) : Option (Int32 × AH) :=
  (if (h.1 12 0 6) ≤ x7 then some (x3, h) else bd (f_X11_has x2 x7 h) (fun y1 h2 => (if y1 = 0 then rc x1 x2 (x3 ||| (0 : Int32)) x5 x6 (x7 + (1 : Int32)) h2 else (if inb x7 14 = true then (if ((h2.1 16 0 x7.toNatClampNeg) &&& (x3 ^^^ (-1 : Int32))) = 0 then (if inb x7 14 = true then rc x1 x2 (x3 ||| (((1 : Int32) <<< ((h2.1 15 0 x7.toNatClampNeg) &&& 31)) &&& (x1 ^^^ (-1 : Int32)))) x5 x6 (x7 + (1 : Int32)) h2 else none) else rc x1 x2 (x3 ||| (0 : Int32)) x5 x6 (x7 + (1 : Int32)) h2) else none))))
def l_X0_standingBy_29 : Nat → Int32 → Int32 → Int32 → Int32 → Int32 → Int32 → AH → Option (Int32 × AH)
  | 0 => fun _ _ _ _ _ _ _ => none
  | F + 1 => b_X0_standingBy_29 (l_X0_standingBy_29 F)
def c_X0_standingBy_72 (rc : Int32 → Int32 → Int32 → Int32 → Int32 → AH → Option (Int32 × AH)) (x1 : Int32) (x2 : Int32) (x3 : Int32) (x5 : Int32) (x6 : Int32) (h : AH) : Option (Int32 × AH) :=
  (if x3 = x6 then rc x1 x2 x3 (0 : Int32) (x5 + (1 : Int32)) h else rc x1 x2 x3 (1 : Int32) (x5 + (1 : Int32)) h)
def b_X0_standingBy_20 (rc : Int32 → Int32 → Int32 → Int32 → Int32 → AH → Option (Int32 × AH)) (x1 : Int32) (x2 : Int32) (x3 : Int32) (x4 : Int32) (x5 : Int32) (h : AH) : Option (Int32 × AH) :=
  (if x4 = 0 then some (x3, h) else (if (10 : Int32) < x5 then some (x3, h) else bd (l_X0_standingBy_29 FU x1 x2 x3 x5 x3 (0 : Int32) h) (fun v h => c_X0_standingBy_72 rc x1 x2 v x5 x3 h)))
def l_X0_standingBy_20 : Nat → Int32 → Int32 → Int32 → Int32 → Int32 → AH → Option (Int32 × AH)
  | 0 => fun _ _ _ _ _ _ => none
  | F + 1 => b_X0_standingBy_20 (l_X0_standingBy_20 F)
def c_X0_standingBy_81  (x3 : Int32) (h : AH) : Option (Int32 × AH) :=
  some (x3, h)
def f_X0_standingBy (x1 : Int32) (x2 : Int32) (h : AH) : Option (Int32 × AH) :=
  bd (f_X6_bitsOf 0 (1 : Int32) h) (fun y1 h2 => bd (f_X6_bitsOf 0 (2 : Int32) h2) (fun y3 h4 => bd (l_X0_standingBy_20 FU x1 x2 ((y1 &&& (y3 ^^^ (-1 : Int32))) &&& (x1 ^^^ (-1 : Int32))) (1 : Int32) (0 : Int32) h4) (fun v h => c_X0_standingBy_81 v h)))
def f_X0_standing  (h : AH) : Option (Int32 × AH) :=
  bd (f_X0_standingBy (h.1 8 3 3) (-1 : Int32) h) (fun y1 h2 => some (y1, h2))
def f_X11_bit (x0 : Int32) (x1 : Int32) (h : AH) : Option (Int32 × AH) :=
  some (((x0 >>> (x1 &&& 31)) &&& (1 : Int32)), h)
def f_X11_factOfClaim (x1 : Int32) (x2 : Int32) (h : AH) : Option (Int32 × AH) :=
  (if x2 = 0 then (if inb x1 10 = true then some ((h.1 13 0 x1.toNatClampNeg), h) else none) else (if x2 = 1 then bd (f_X6_reasonsFor 0 x1 h) (fun y1 h2 => some (y1, h2)) else (if x2 = 2 then bd (f_X6_reasonsWith 0 x1 h) (fun y3 h4 => some (y3, h4)) else (if x2 = 3 then bd (f_X0_standing  h) (fun y5 h6 => bd (f_X11_bit y5 x1 h6) (fun y7 h8 => some (y7, h8))) else bd (f_X11_bit (h.1 8 3 3) x1 h) (fun y9 h10 => some (y9, h10))))))
def f_X11_claim (x1 : Int32) (x2 : Int32) (h : AH) : Option (Int32 × AH) :=
  bd (f_X11_isClaim x1 h) (fun y1 h2 => (if y1 = 0 then some ((-1 : Int32), h2) else (if x2 < 0 then some ((-1 : Int32), h2) else (if x2 < (5 : Int32) then bd (f_X11_factOfClaim x1 x2 h2) (fun y3 h4 => some ((1 : Int32), (hsI h4 0 0 14 y3))) else some ((-1 : Int32), h2)))))
def f_X12_isClaim (x1 : Int32) (h : AH) : Option (Int32 × AH) :=
  bd (f_X12_in x1 (0 : Int32) ((h.1 34 0 10) - (1 : Int32)) h) (fun y1 h2 => some (zn y1, h2))
def b_X12_reasonsFor_4 (rc : Int32 → Int32 → Int32 → AH → Option (Int32 × AH)) (x1 : Int32) (x2 : Int32) (x3 : Int32) (h : AH) : Option (Int32 × AH) :=
  (if (h.1 34 0 11) ≤ x3 then some (x2, h) else (if inb x3 14 = true then (if (h.1 42 0 x3.toNatClampNeg) = x1 then rc x1 (x2 ||| ((1 : Int32) <<< (x3 &&& 31))) (x3 + (1 : Int32)) h else rc x1 (x2 ||| (0 : Int32)) (x3 + (1 : Int32)) h) else none))
def l_X12_reasonsFor_4 : Nat → Int32 → Int32 → Int32 → AH → Option (Int32 × AH)
  | 0 => fun _ _ _ _ => none
  | F + 1 => b_X12_reasonsFor_4 (l_X12_reasonsFor_4 F)
def c_X12_reasonsFor_24  (x2 : Int32) (h : AH) : Option (Int32 × AH) :=
  some (x2, h)
def f_X12_reasonsFor (x1 : Int32) (h : AH) : Option (Int32 × AH) :=
  bd (l_X12_reasonsFor_4 FU x1 (0 : Int32) (0 : Int32) h) (fun v h => c_X12_reasonsFor_24 v h)
def b_X12_reasonsWith_4 (rc : Int32 → Int32 → Int32 → AH → Option (Int32 × AH)) (x1 : Int32) (x2 : Int32) (x3 : Int32) (h : AH) : Option (Int32 × AH) :=
  (if (h.1 34 0 11) ≤ x3 then some (x2, h) else (if inb x3 14 = true then bd (f_X12_has (h.1 43 0 x3.toNatClampNeg) x1 h) (fun y1 h2 => (if y1 = 0 then rc x1 (x2 ||| (0 : Int32)) (x3 + (1 : Int32)) h2 else rc x1 (x2 ||| ((1 : Int32) <<< (x3 &&& 31))) (x3 + (1 : Int32)) h2)) else none))
def l_X12_reasonsWith_4 : Nat → Int32 → Int32 → Int32 → AH → Option (Int32 × AH)
  | 0 => fun _ _ _ _ => none
  | F + 1 => b_X12_reasonsWith_4 (l_X12_reasonsWith_4 F)
def c_X12_reasonsWith_25  (x2 : Int32) (h : AH) : Option (Int32 × AH) :=
  some (x2, h)
def f_X12_reasonsWith (x1 : Int32) (h : AH) : Option (Int32 × AH) :=
  bd (l_X12_reasonsWith_4 FU x1 (0 : Int32) (0 : Int32) h) (fun v h => c_X12_reasonsWith_25 v h)
def f_X12_allClaims  (h : AH) : Option (Int32 × AH) :=
  some ((((1 : Int32) <<< ((h.1 34 0 10) &&& 31)) - (1 : Int32)), h)
def f_X12_allReasons  (h : AH) : Option (Int32 × AH) :=
  some ((((1 : Int32) <<< ((h.1 34 0 11) &&& 31)) - (1 : Int32)), h)
def f_X12_isUsable (x1 : Int32) (h : AH) : Option (Int32 × AH) :=
  (if inb x1 14 = true then (if inb x1 14 = true then (if ((((1 : Int32) <<< ((h.1 42 0 x1.toNatClampNeg) &&& 31)) ||| (h.1 43 0 x1.toNatClampNeg)) &&& (h.1 34 0 16)) = 0 then some (zn (1 : Int32), h) else some (zn (0 : Int32), h)) else none) else none)
def b_X12_standing_4 (rc : Int32 → Int32 → Int32 → Int32 → AH → Option (Int32 × AH)) (x1 : Int32) (x2 : Int32) (x3 : Int32) (x4 : Int32) (h : AH) : Option (Int32 × AH) :=
  (if (h.1 34 0 10) ≤ x4 then some (x3, h) else (if inb x4 10 = true then (if (h.1 41 0 x4.toNatClampNeg) = (1 : Int32) then bd (f_X12_has (x1 &&& ((h.1 34 0 16) ^^^ (-1 : Int32))) x4 h) (fun y1 h2 => (if y1 = 0 then rc x1 x2 (x3 ||| (0 : Int32)) (x4 + (1 : Int32)) h2 else rc x1 x2 (x3 ||| ((1 : Int32) <<< (x4 &&& 31))) (x4 + (1 : Int32)) h2)) else rc x1 x2 (x3 ||| (0 : Int32)) (x4 + (1 : Int32)) h) else none))
def l_X12_standing_4 : Nat → Int32 → Int32 → Int32 → Int32 → AH → Option (Int32 × AH)
  | 0 => fun _ _ _ _ _ => none
  | F + 1 => b_X12_standing_4 (l_X12_standing_4 F)
def b_X12_standing_42 (rc : Int32 → Int32 → Int32 → Int32 → Int32 → AH → Option (Int32 × AH)) (x1 : Int32) (x2 : Int32) (x3 : Int32) (x4 : Int32) (x5 : Int32) (h : AH) : Option (Int32 × AH) :=
  (if (h.1 34 0 11) ≤ x5 then some (x3, h) else bd (f_X12_has x2 x5 h) (fun y1 h2 => (if y1 = 0 then rc x1 x2 (x3 ||| (0 : Int32)) x4 (x5 + (1 : Int32)) h2 else bd (f_X12_isUsable x5 h2) (fun y3 h4 => (if y3 = 0 then rc x1 x2 (x3 ||| (0 : Int32)) x4 (x5 + (1 : Int32)) h4 else (if inb x5 14 = true then bd (f_X12_has x1 (h4.1 42 0 x5.toNatClampNeg) h4) (fun y5 h6 => (if y5 = 0 then rc x1 x2 (x3 ||| (0 : Int32)) x4 (x5 + (1 : Int32)) h6 else (if inb x5 14 = true then (if ((h6.1 43 0 x5.toNatClampNeg) &&& (x4 ^^^ (-1 : Int32))) = 0 then (if inb x5 14 = true then rc x1 x2 (x3 ||| ((1 : Int32) <<< ((h6.1 42 0 x5.toNatClampNeg) &&& 31))) x4 (x5 + (1 : Int32)) h6 else none) else rc x1 x2 (x3 ||| (0 : Int32)) x4 (x5 + (1 : Int32)) h6) else none))) else none))))))
def l_X12_standing_42 : Nat → Int32 → Int32 → Int32 → Int32 → Int32 → AH → Option (Int32 × AH)
  | 0 => fun _ _ _ _ _ _ => none
  | F + 1 => b_X12_standing_42 (l_X12_standing_42 F)
def c_X12_standing_89 (rc : Int32 → Int32 → Int32 → Int32 → AH → Option (Int32 × AH)) (x1 : Int32) (x2 : Int32) (x3 : Int32) (x4 : Int32) (h : AH) : Option (Int32 × AH) :=
  rc x1 x2 x3 x4 h
def b_X12_standing_35 (rc : Int32 → Int32 → Int32 → Int32 → AH → Option (Int32 × AH)) (x1 : Int32) (x2 : Int32) (x3 : Int32) (x4 : Int32) (h : AH) : Option (Int32 × AH) :=
  (if x4 = x3 then some (x3, h) else bd (l_X12_standing_42 FU x1 x2 x3 x3 (0 : Int32) h) (fun v h => c_X12_standing_89 rc x1 x2 v x3 h))
def l_X12_standing_35 : Nat → Int32 → Int32 → Int32 → Int32 → AH → Option (Int32 × AH)
  | 0 => fun _ _ _ _ _ => none
  | F + 1 => b_X12_standing_35 (l_X12_standing_35 F)
def c_X12_standing_90  (x3 : Int32) (h : AH) : Option (Int32 × AH) :=
  some (x3, h)
def c_X12_standing_33  (x1 : Int32) (x2 : Int32) (x3 : Int32) (h : AH) : Option (Int32 × AH) :=
  bd (l_X12_standing_35 FU x1 x2 x3 (-9 : Int32) h) (fun v h => c_X12_standing_90 v h)
def f_X12_standing (x1 : Int32) (x2 : Int32) (h : AH) : Option (Int32 × AH) :=
  bd (l_X12_standing_4 FU x1 x2 (0 : Int32) (0 : Int32) h) (fun v h => c_X12_standing_33 x1 x2 v h)
def f_X12_standNow  (h : AH) : Option (Int32 × AH) :=
  bd (f_X12_allClaims  h) (fun y1 h2 => bd (f_X12_allReasons  h2) (fun y3 h4 => bd (f_X12_standing y1 y3 h4) (fun y5 h6 => some (y5, h6))))
def f_X12_claimTells (x1 : Int32) (x2 : Int32) (h : AH) : Option (Int32 × AH) :=
  (if x2 = 0 then (if inb x1 10 = true then some ((h.1 41 0 x1.toNatClampNeg), h) else none) else (if x2 = 1 then bd (f_X12_reasonsFor x1 h) (fun y1 h2 => some (y1, h2)) else (if x2 = 2 then bd (f_X12_reasonsWith x1 h) (fun y3 h4 => some (y3, h4)) else (if x2 = 3 then bd (f_X12_standNow  h) (fun y5 h6 => bd (f_X12_has y5 x1 h6) (fun y7 h8 => (if y7 = 0 then some ((0 : Int32), h8) else some ((1 : Int32), h8)))) else bd (f_X12_has (h.1 34 0 16) x1 h) (fun y9 h10 => (if y9 = 0 then some ((0 : Int32), h10) else some ((1 : Int32), h10)))))))
def f_X12_claim (x1 : Int32) (x2 : Int32) (h : AH) : Option (Int32 × AH) :=
  bd (f_X12_isClaim x1 h) (fun y1 h2 => (if y1 = 0 then some ((-1 : Int32), h2) else bd (f_X12_in x2 (0 : Int32) (4 : Int32) h2) (fun y3 h4 => (if y3 = 0 then some ((-1 : Int32), h4) else bd (f_X12_claimTells x1 x2 h4) (fun y5 h6 => bd (f_X12_tells y5 (1 : Int32) h6) (fun y7 h8 => some (y7, h8)))))))
def f_X11_isReason (x1 : Int32) (h : AH) : Option (Int32 × AH) :=
  (if x1 < 0 then some (zn (0 : Int32), h) else (if (h.1 12 0 6) ≤ x1 then some (zn (0 : Int32), h) else some (zn (1 : Int32), h)))
def f_X11_factOfReason (x1 : Int32) (x2 : Int32) (h : AH) : Option (Int32 × AH) :=
  (if x2 = 0 then (if inb x1 14 = true then some ((h.1 15 0 x1.toNatClampNeg), h) else none) else (if x2 = 1 then (if inb x1 14 = true then some ((h.1 16 0 x1.toNatClampNeg), h) else none) else (if inb x1 14 = true then some ((h.1 9 3 x1.toNatClampNeg), h) else none)))
def f_X11_reason (x1 : Int32) (x2 : Int32) (h : AH) : Option (Int32 × AH) :=
  bd (f_X11_isReason x1 h) (fun y1 h2 => (if y1 = 0 then some ((-1 : Int32), h2) else (if x2 < 0 then some ((-1 : Int32), h2) else (if x2 < (3 : Int32) then bd (f_X11_factOfReason x1 x2 h2) (fun y3 h4 => some ((1 : Int32), (hsI h4 0 0 14 y3))) else some ((-1 : Int32), h2)))))
def f_X12_isReason (x1 : Int32) (h : AH) : Option (Int32 × AH) :=
  bd (f_X12_in x1 (0 : Int32) ((h.1 34 0 11) - (1 : Int32)) h) (fun y1 h2 => some (zn y1, h2))
def f_X12_reasonTells (x1 : Int32) (x2 : Int32) (h : AH) : Option (Int32 × AH) :=
  (if x2 = 0 then (if inb x1 14 = true then some ((h.1 42 0 x1.toNatClampNeg), h) else none) else (if x2 = (1 : Int32) then (if inb x1 14 = true then some ((h.1 43 0 x1.toNatClampNeg), h) else none) else (if inb x1 14 = true then some ((h.1 44 0 x1.toNatClampNeg), h) else none)))
def f_X12_reason (x1 : Int32) (x2 : Int32) (h : AH) : Option (Int32 × AH) :=
  bd (f_X12_isReason x1 h) (fun y1 h2 => (if y1 = 0 then some ((-1 : Int32), h2) else bd (f_X12_in x2 (0 : Int32) (2 : Int32) h2) (fun y3 h4 => (if y3 = 0 then some ((-1 : Int32), h4) else bd (f_X12_reasonTells x1 x2 h4) (fun y5 h6 => bd (f_X12_tells y5 (1 : Int32) h6) (fun y7 h8 => some (y7, h8)))))))
def f_X0_isUsable (x1 : Int32) (h : AH) : Option (Int32 × AH) :=
  (if inb x1 14 = true then bd (f_X11_has (h.1 8 3 3) (h.1 15 0 x1.toNatClampNeg) h) (fun y1 h2 => (if y1 = 0 then (if inb x1 14 = true then (if ((h2.1 16 0 x1.toNatClampNeg) &&& (h2.1 8 3 3)) = 0 then some (zn (1 : Int32), h2) else some (zn (0 : Int32), h2)) else none) else some (zn (0 : Int32), h2))) else none)
def b_X0_lossBits_13 (rc : Int32 → Int32 → AH → Option (Int32 × AH)) (x1 : Int32) (x2 : Int32) (h : AH) : Option (Int32 × AH) :=
  (if (h.1 12 0 6) ≤ x2 then some (x1, h) else bd (f_X0_isUsable x2 h) (fun y1 h2 => (if y1 = 0 then rc (x1 &&& (-1 : Int32)) (x2 + (1 : Int32)) h2 else (if inb x2 14 = true then rc (x1 &&& (((1 : Int32) <<< ((h2.1 15 0 x2.toNatClampNeg) &&& 31)) ^^^ (-1 : Int32))) (x2 + (1 : Int32)) h2 else none))))
def l_X0_lossBits_13 : Nat → Int32 → Int32 → AH → Option (Int32 × AH)
  | 0 => fun _ _ _ => none
  | F + 1 => b_X0_lossBits_13 (l_X0_lossBits_13 F)
def c_X0_lossBits_38  (x1 : Int32) (h : AH) : Option (Int32 × AH) :=
  bd (f_X6_bitsOf 0 (2 : Int32) h) (fun y1 h2 => some ((x1 ||| y1), h2))
def f_X0_lossBits  (h : AH) : Option (Int32 × AH) :=
  bd (f_X6_allBits 0 h) (fun y1 h2 => bd (f_X6_bitsOf 0 (1 : Int32) h2) (fun y3 h4 => bd (l_X0_lossBits_13 FU (y1 &&& (y3 ^^^ (-1 : Int32))) (0 : Int32) h4) (fun v h => c_X0_lossBits_38 v h)))
def f_X0_fallingWithout (x1 : Int32) (h : AH) : Option (Int32 × AH) :=
  bd (f_X0_standing  h) (fun y1 h2 => bd (f_X0_standingBy ((h2.1 8 3 3) ||| ((1 : Int32) <<< (x1 &&& 31))) (-1 : Int32) h2) (fun y3 h4 => some (((y1 &&& (y3 ^^^ (-1 : Int32))) &&& (((1 : Int32) <<< (x1 &&& 31)) ^^^ (-1 : Int32))), h4)))
def f_X11_mark (x1 : Int32) (x2 : Int32) (h : AH) : Option (Int32 × AH) :=
  bd (f_X11_isClaim x1 h) (fun y1 h2 => (if y1 = 0 then some ((-1 : Int32), h2) else (if x2 < (1 : Int32) then some ((-1 : Int32), h2) else (if x2 < (6 : Int32) then bd (f_X6_bitsOf 0 x2 h2) (fun y3 h4 => bd (f_X11_has y3 x1 h4) (fun y5 h6 => (if y5 = 0 then bd (f_X11_refuse (3 : Int32) h6) (fun y7 h8 => some (y7, h8)) else (if x2 = 1 then bd (f_X6_reasonsWith 0 x1 h6) (fun y9 h10 => bd (f_J6_bitCount_0f7a4 y9 h10) (fun y11 h12 => some (y11, h12))) else (if x2 = 2 then bd (f_X0_lossBits  h6) (fun y13 h14 => bd (f_J6_bitCount_0f7a4 (y13 &&& ((h14.1 8 3 3) ^^^ (-1 : Int32))) h14) (fun y15 h16 => some (y15, h16))) else (if x2 = 3 then bd (f_X0_fallingWithout x1 h6) (fun y17 h18 => bd (f_J6_bitCount_0f7a4 y17 h18) (fun y19 h20 => some (y19, h20))) else (if x2 = 4 then bd (f_X11_bit (h6.1 8 3 4) x1 h6) (fun y21 h22 => some (y21, h22)) else bd (f_X6_bitsOf 0 (3 : Int32) h6) (fun y23 h24 => bd (f_J6_bitCount_0f7a4 y23 h24) (fun y25 h26 => some (y25, h26)))))))))) else some ((-1 : Int32), h2)))))
def b_X12_bits_4 (rc : Int32 → Int32 → AH → Option (Int32 × AH)) (x1 : Int32) (x2 : Int32) (h : AH) : Option (Int32 × AH) :=
  (if x2 = 0 then some (x1, h) else rc (x1 + (1 : Int32)) (x2 &&& (x2 - (1 : Int32))) h)
def l_X12_bits_4 : Nat → Int32 → Int32 → AH → Option (Int32 × AH)
  | 0 => fun _ _ _ => none
  | F + 1 => b_X12_bits_4 (l_X12_bits_4 F)
def c_X12_bits_14  (x1 : Int32) (h : AH) : Option (Int32 × AH) :=
  some (x1, h)
def f_X12_bits (x0 : Int32) (h : AH) : Option (Int32 × AH) :=
  bd (l_X12_bits_4 FU (0 : Int32) x0 h) (fun v h => c_X12_bits_14 v h)
def b_X12_usableFor_4 (rc : Int32 → Int32 → Int32 → AH → Option (Int32 × AH)) (x1 : Int32) (x2 : Int32) (x3 : Int32) (h : AH) : Option (Int32 × AH) :=
  (if (h.1 34 0 11) ≤ x3 then some (x2, h) else (if inb x3 14 = true then (if (h.1 42 0 x3.toNatClampNeg) = x1 then bd (f_X12_isUsable x3 h) (fun y1 h2 => (if y1 = 0 then rc x1 (x2 ||| (0 : Int32)) (x3 + (1 : Int32)) h2 else rc x1 (x2 ||| ((1 : Int32) <<< (x3 &&& 31))) (x3 + (1 : Int32)) h2)) else rc x1 (x2 ||| (0 : Int32)) (x3 + (1 : Int32)) h) else none))
def l_X12_usableFor_4 : Nat → Int32 → Int32 → Int32 → AH → Option (Int32 × AH)
  | 0 => fun _ _ _ _ => none
  | F + 1 => b_X12_usableFor_4 (l_X12_usableFor_4 F)
def c_X12_usableFor_28  (x2 : Int32) (h : AH) : Option (Int32 × AH) :=
  some (x2, h)
def f_X12_usableFor (x1 : Int32) (h : AH) : Option (Int32 × AH) :=
  bd (l_X12_usableFor_4 FU x1 (0 : Int32) (0 : Int32) h) (fun v h => c_X12_usableFor_28 v h)
def f_X12_isAtLoss (x1 : Int32) (h : AH) : Option (Int32 × AH) :=
  (if inb x1 10 = true then (if (h.1 41 0 x1.toNatClampNeg) = (2 : Int32) then some (zn (1 : Int32), h) else (if inb x1 10 = true then (if (h.1 41 0 x1.toNatClampNeg) = (1 : Int32) then some (zn (0 : Int32), h) else bd (f_X12_usableFor x1 h) (fun y1 h2 => (if y1 = 0 then some (zn (1 : Int32), h2) else some (zn (0 : Int32), h2)))) else none)) else none)
def b_X12_lossSet_4 (rc : Int32 → Int32 → AH → Option (Int32 × AH)) (x1 : Int32) (x2 : Int32) (h : AH) : Option (Int32 × AH) :=
  (if (h.1 34 0 10) ≤ x2 then some (x1, h) else bd (f_X12_isAtLoss x2 h) (fun y1 h2 => (if y1 = 0 then rc (x1 ||| (0 : Int32)) (x2 + (1 : Int32)) h2 else rc (x1 ||| ((1 : Int32) <<< (x2 &&& 31))) (x2 + (1 : Int32)) h2)))
def l_X12_lossSet_4 : Nat → Int32 → Int32 → AH → Option (Int32 × AH)
  | 0 => fun _ _ _ => none
  | F + 1 => b_X12_lossSet_4 (l_X12_lossSet_4 F)
def c_X12_lossSet_22  (x1 : Int32) (h : AH) : Option (Int32 × AH) :=
  some (x1, h)
def f_X12_lossSet  (h : AH) : Option (Int32 × AH) :=
  bd (l_X12_lossSet_4 FU (0 : Int32) (0 : Int32) h) (fun v h => c_X12_lossSet_22 v h)
def f_X12_standWithout (x1 : Int32) (h : AH) : Option (Int32 × AH) :=
  bd (f_X12_allClaims  h) (fun y1 h2 => bd (f_X12_allReasons  h2) (fun y3 h4 => bd (f_X12_standing (y1 &&& (x1 ^^^ (-1 : Int32))) y3 h4) (fun y5 h6 => some (y5, h6))))
def f_X12_fallSet (x1 : Int32) (h : AH) : Option (Int32 × AH) :=
  bd (f_X12_standNow  h) (fun y1 h2 => bd (f_X12_standWithout ((1 : Int32) <<< (x1 &&& 31)) h2) (fun y3 h4 => some (((y1 &&& (y3 ^^^ (-1 : Int32))) &&& (((1 : Int32) <<< (x1 &&& 31)) ^^^ (-1 : Int32))), h4)))
def f_X12_isAct (x1 : Int32) (h : AH) : Option (Int32 × AH) :=
  (if inb x1 10 = true then (if (h.1 41 0 x1.toNatClampNeg) = (3 : Int32) then some (zn (1 : Int32), h) else (if inb x1 10 = true then (if (h.1 41 0 x1.toNatClampNeg) = (5 : Int32) then some (zn (1 : Int32), h) else some (zn (0 : Int32), h)) else none)) else none)
def b_X12_actSet_4 (rc : Int32 → Int32 → AH → Option (Int32 × AH)) (x1 : Int32) (x2 : Int32) (h : AH) : Option (Int32 × AH) :=
  (if (h.1 34 0 10) ≤ x2 then some (x1, h) else bd (f_X12_isAct x2 h) (fun y1 h2 => (if y1 = 0 then rc (x1 ||| (0 : Int32)) (x2 + (1 : Int32)) h2 else rc (x1 ||| ((1 : Int32) <<< (x2 &&& 31))) (x2 + (1 : Int32)) h2)))
def l_X12_actSet_4 : Nat → Int32 → Int32 → AH → Option (Int32 × AH)
  | 0 => fun _ _ _ => none
  | F + 1 => b_X12_actSet_4 (l_X12_actSet_4 F)
def c_X12_actSet_22  (x1 : Int32) (h : AH) : Option (Int32 × AH) :=
  some (x1, h)
def f_X12_actSet  (h : AH) : Option (Int32 × AH) :=
  bd (l_X12_actSet_4 FU (0 : Int32) (0 : Int32) h) (fun v h => c_X12_actSet_22 v h)
def f_X12_mark (x1 : Int32) (x2 : Int32) (h : AH) : Option (Int32 × AH) :=
  bd (f_X12_isClaim x1 h) (fun y1 h2 => (if y1 = 0 then some ((-1 : Int32), h2) else bd (f_X12_in x2 (1 : Int32) (5 : Int32) h2) (fun y3 h4 => (if y3 = 0 then some ((-1 : Int32), h4) else (if inb x1 10 = true then (if (h4.1 41 0 x1.toNatClampNeg) = x2 then (if x2 = 1 then bd (f_X12_reasonsWith x1 h4) (fun y5 h6 => bd (f_X12_bits y5 h6) (fun y7 h8 => some (y7, h8))) else (if x2 = 2 then bd (f_X12_lossSet  h4) (fun y9 h10 => bd (f_X12_bits (y9 &&& ((h10.1 34 0 16) ^^^ (-1 : Int32))) h10) (fun y11 h12 => some (y11, h12))) else (if x2 = 3 then bd (f_X12_fallSet x1 h4) (fun y13 h14 => bd (f_X12_bits y13 h14) (fun y15 h16 => some (y15, h16))) else (if x2 = 4 then bd (f_X12_has (h4.1 34 0 17) x1 h4) (fun y17 h18 => (if y17 = 0 then some ((0 : Int32), h18) else some ((1 : Int32), h18))) else bd (f_X12_actSet  h4) (fun y19 h20 => bd (f_X12_bits y19 h20) (fun y21 h22 => some (y21, h22))))))) else (if x2 = (1 : Int32) then (if (h4.1 41 0 x1.toNatClampNeg) = (2 : Int32) then (if x2 = 1 then bd (f_X12_reasonsWith x1 h4) (fun y23 h24 => bd (f_X12_bits y23 h24) (fun y25 h26 => some (y25, h26))) else (if x2 = 2 then bd (f_X12_lossSet  h4) (fun y27 h28 => bd (f_X12_bits (y27 &&& ((h28.1 34 0 16) ^^^ (-1 : Int32))) h28) (fun y29 h30 => some (y29, h30))) else (if x2 = 3 then bd (f_X12_fallSet x1 h4) (fun y31 h32 => bd (f_X12_bits y31 h32) (fun y33 h34 => some (y33, h34))) else (if x2 = 4 then bd (f_X12_has (h4.1 34 0 17) x1 h4) (fun y35 h36 => (if y35 = 0 then some ((0 : Int32), h36) else some ((1 : Int32), h36))) else bd (f_X12_actSet  h4) (fun y37 h38 => bd (f_X12_bits y37 h38) (fun y39 h40 => some (y39, h40))))))) else (if x2 = (3 : Int32) then (if (h4.1 41 0 x1.toNatClampNeg) = (5 : Int32) then (if x2 = 1 then bd (f_X12_reasonsWith x1 h4) (fun y41 h42 => bd (f_X12_bits y41 h42) (fun y43 h44 => some (y43, h44))) else (if x2 = 2 then bd (f_X12_lossSet  h4) (fun y45 h46 => bd (f_X12_bits (y45 &&& ((h46.1 34 0 16) ^^^ (-1 : Int32))) h46) (fun y47 h48 => some (y47, h48))) else (if x2 = 3 then bd (f_X12_fallSet x1 h4) (fun y49 h50 => bd (f_X12_bits y49 h50) (fun y51 h52 => some (y51, h52))) else (if x2 = 4 then bd (f_X12_has (h4.1 34 0 17) x1 h4) (fun y53 h54 => (if y53 = 0 then some ((0 : Int32), h54) else some ((1 : Int32), h54))) else bd (f_X12_actSet  h4) (fun y55 h56 => bd (f_X12_bits y55 h56) (fun y57 h58 => some (y57, h58))))))) else bd (f_X12_meets (3 : Int32) h4) (fun y59 h60 => some (y59, h60))) else bd (f_X12_meets (3 : Int32) h4) (fun y61 h62 => some (y61, h62)))) else (if x2 = (3 : Int32) then (if (h4.1 41 0 x1.toNatClampNeg) = (5 : Int32) then (if x2 = 1 then bd (f_X12_reasonsWith x1 h4) (fun y63 h64 => bd (f_X12_bits y63 h64) (fun y65 h66 => some (y65, h66))) else (if x2 = 2 then bd (f_X12_lossSet  h4) (fun y67 h68 => bd (f_X12_bits (y67 &&& ((h68.1 34 0 16) ^^^ (-1 : Int32))) h68) (fun y69 h70 => some (y69, h70))) else (if x2 = 3 then bd (f_X12_fallSet x1 h4) (fun y71 h72 => bd (f_X12_bits y71 h72) (fun y73 h74 => some (y73, h74))) else (if x2 = 4 then bd (f_X12_has (h4.1 34 0 17) x1 h4) (fun y75 h76 => (if y75 = 0 then some ((0 : Int32), h76) else some ((1 : Int32), h76))) else bd (f_X12_actSet  h4) (fun y77 h78 => bd (f_X12_bits y77 h78) (fun y79 h80 => some (y79, h80))))))) else bd (f_X12_meets (3 : Int32) h4) (fun y81 h82 => some (y81, h82))) else bd (f_X12_meets (3 : Int32) h4) (fun y83 h84 => some (y83, h84))))) else none)))))
def f_X11_trust (x1 : Int32) (x2 : Int32) (h : AH) : Option (Int32 × AH) :=
  bd (f_X11_isReason x1 h) (fun y1 h2 => (if y1 = 0 then some ((-1 : Int32), h2) else (if x2 < (1 : Int32) then some ((-1 : Int32), h2) else (if x2 ≤ (9 : Int32) then (if inb x1 14 = true then (if inb x1 14 = true then some ((h2.1 9 3 x1.toNatClampNeg), (hsI h2 9 3 x1.toNatClampNeg x2)) else none) else none) else some ((-1 : Int32), h2)))))
def f_X12_trust (x1 : Int32) (x2 : Int32) (h : AH) : Option (Int32 × AH) :=
  bd (f_X12_isReason x1 h) (fun y1 h2 => (if y1 = 0 then some ((-1 : Int32), h2) else bd (f_X12_in x2 (1 : Int32) (9 : Int32) h2) (fun y3 h4 => (if y3 = 0 then some ((-1 : Int32), h4) else (if inb x1 14 = true then (if inb x1 14 = true then some ((h4.1 44 0 x1.toNatClampNeg), (hsI h4 44 0 x1.toNatClampNeg x2)) else none) else none)))))
def f_X11_isSwitch (x0 : Int32) (h : AH) : Option (Int32 × AH) :=
  (if x0 = 0 then some (zn (1 : Int32), h) else (if x0 = (1 : Int32) then some (zn (1 : Int32), h) else some (zn (0 : Int32), h)))
def f_X11_withBit (x0 : Int32) (x1 : Int32) (x2 : Int32) (h : AH) : Option (Int32 × AH) :=
  (if x2 = (1 : Int32) then some ((x0 ||| ((1 : Int32) <<< (x1 &&& 31))), h) else some ((x0 &&& (((1 : Int32) <<< (x1 &&& 31)) ^^^ (-1 : Int32))), h))
def f_X11_away (x1 : Int32) (x2 : Int32) (h : AH) : Option (Int32 × AH) :=
  bd (f_X11_isClaim x1 h) (fun y1 h2 => (if y1 = 0 then some ((-1 : Int32), h2) else bd (f_X11_isSwitch x2 h2) (fun y3 h4 => (if y3 = 0 then some ((-1 : Int32), h4) else bd (f_X11_bit (h4.1 8 3 3) x1 h4) (fun y5 h6 => bd (f_X11_withBit (h6.1 8 3 3) x1 x2 h6) (fun y7 h8 => some (y5, (hsI h8 8 3 3 y7))))))))
def f_X12_away (x1 : Int32) (x2 : Int32) (h : AH) : Option (Int32 × AH) :=
  bd (f_X12_isClaim x1 h) (fun y1 h2 => (if y1 = 0 then some ((-1 : Int32), h2) else bd (f_X12_in x2 (0 : Int32) (1 : Int32) h2) (fun y3 h4 => (if y3 = 0 then some ((-1 : Int32), h4) else bd (f_X12_has (h4.1 34 0 16) x1 h4) (fun y5 h6 => (if y5 = 0 then (if x2 = (1 : Int32) then some ((0 : Int32), (hsI h6 34 0 16 ((h6.1 34 0 16) ||| ((1 : Int32) <<< (x1 &&& 31))))) else some ((0 : Int32), (hsI h6 34 0 16 ((h6.1 34 0 16) &&& (((1 : Int32) <<< (x1 &&& 31)) ^^^ (-1 : Int32)))))) else (if x2 = (1 : Int32) then some ((1 : Int32), (hsI h6 34 0 16 ((h6.1 34 0 16) ||| ((1 : Int32) <<< (x1 &&& 31))))) else some ((1 : Int32), (hsI h6 34 0 16 ((h6.1 34 0 16) &&& (((1 : Int32) <<< (x1 &&& 31)) ^^^ (-1 : Int32))))))))))))
def f_X11_learn (x1 : Int32) (x2 : Int32) (h : AH) : Option (Int32 × AH) :=
  bd (f_X11_isClaim x1 h) (fun y1 h2 => (if y1 = 0 then some ((-1 : Int32), h2) else bd (f_X11_isSwitch x2 h2) (fun y3 h4 => (if y3 = 0 then some ((-1 : Int32), h4) else bd (f_X6_bitsOf 0 (4 : Int32) h4) (fun y5 h6 => bd (f_X11_has y5 x1 h6) (fun y7 h8 => (if y7 = 0 then bd (f_X11_refuse (3 : Int32) h8) (fun y9 h10 => some (y9, h10)) else bd (f_X11_bit (h8.1 8 3 4) x1 h8) (fun y11 h12 => bd (f_X11_withBit (h12.1 8 3 4) x1 x2 h12) (fun y13 h14 => some (y11, (hsI h14 8 3 4 y13)))))))))))
def f_X12_learn (x1 : Int32) (x2 : Int32) (h : AH) : Option (Int32 × AH) :=
  bd (f_X12_isClaim x1 h) (fun y1 h2 => (if y1 = 0 then some ((-1 : Int32), h2) else bd (f_X12_in x2 (0 : Int32) (1 : Int32) h2) (fun y3 h4 => (if y3 = 0 then some ((-1 : Int32), h4) else (if inb x1 10 = true then (if (h4.1 41 0 x1.toNatClampNeg) = (4 : Int32) then bd (f_X12_has (h4.1 34 0 17) x1 h4) (fun y5 h6 => (if y5 = 0 then (if x2 = (1 : Int32) then some ((0 : Int32), (hsI h6 34 0 17 ((h6.1 34 0 17) ||| ((1 : Int32) <<< (x1 &&& 31))))) else some ((0 : Int32), (hsI h6 34 0 17 ((h6.1 34 0 17) &&& (((1 : Int32) <<< (x1 &&& 31)) ^^^ (-1 : Int32)))))) else (if x2 = (1 : Int32) then some ((1 : Int32), (hsI h6 34 0 17 ((h6.1 34 0 17) ||| ((1 : Int32) <<< (x1 &&& 31))))) else some ((1 : Int32), (hsI h6 34 0 17 ((h6.1 34 0 17) &&& (((1 : Int32) <<< (x1 &&& 31)) ^^^ (-1 : Int32)))))))) else bd (f_X12_meets (3 : Int32) h4) (fun y7 h8 => some (y7, h8))) else none)))))
def f_X11_law (x1 : Int32) (h : AH) : Option (Int32 × AH) :=
  bd (f_X11_isSwitch x1 h) (fun y1 h2 => (if y1 = 0 then some ((-1 : Int32), h2) else some ((h2.1 8 3 5), (hsI h2 8 3 5 x1))))
def f_X12_law (x1 : Int32) (h : AH) : Option (Int32 × AH) :=
  bd (f_X12_in x1 (0 : Int32) (1 : Int32) h) (fun y1 h2 => (if y1 = 0 then some ((-1 : Int32), h2) else some ((h2.1 34 0 18), (hsI h2 34 0 18 x1))))
def f_X7_open (r0 : Nat) (x1 : Int32) (h : AH) : Option (Unit × AH) :=
  some ((), (hsI (hsI h 10 r0 (0 : Int32).toNatClampNeg x1) 8 r0 2 (1 : Int32)))
def f_X7_place (r0 : Nat) (h : AH) : Option (Int32 × AH) :=
  (if (h.1 8 r0 2) ≤ 0 then some ((0 : Int32), h) else (if (nI 40) < (h.1 8 r0 2) then some ((0 : Int32), h) else (if inb ((h.1 8 r0 2) - (1 : Int32)) 40 = true then some ((h.1 10 r0 ((h.1 8 r0 2) - (1 : Int32)).toNatClampNeg), h) else none)))
def f_X0_isOver (x1 : Int32) (h : AH) : Option (Int32 × AH) :=
  bd (f_X0_lossBits  h) (fun y1 h2 => bd (f_X6_bitsOf 0 (1 : Int32) h2) (fun y3 h4 => bd (f_X11_has (y1 ||| y3) x1 h4) (fun y5 h6 => some (zn y5, h6))))
def f_X11_overHere  (h : AH) : Option (Int32 × AH) :=
  bd (f_X7_place 3 h) (fun y1 h2 => bd (f_X0_isOver y1 h2) (fun y3 h4 => (if y3 = 0 then some ((0 : Int32), h4) else some ((1 : Int32), h4))))
def f_X11_begin (x1 : Int32) (h : AH) : Option (Int32 × AH) :=
  bd (f_X11_isClaim x1 h) (fun y1 h2 => (if y1 = 0 then some ((-1 : Int32), h2) else bd (f_X11_has (h2.1 8 3 3) x1 h2) (fun y3 h4 => (if y3 = 0 then bd (f_X7_open 3 x1 h4) (fun _ h6 => bd (f_X11_overHere  h6) (fun y7 h8 => some (y7, h8))) else some ((-4 : Int32), h4)))))
def f_X12_isEnd (x1 : Int32) (h : AH) : Option (Int32 × AH) :=
  (if inb x1 10 = true then bd (f_X12_isEndKind (h.1 41 0 x1.toNatClampNeg) h) (fun y1 h2 => some (zn y1, h2)) else none)
def f_X12_isOver (x1 : Int32) (h : AH) : Option (Int32 × AH) :=
  bd (f_X12_isEnd x1 h) (fun y1 h2 => (if y1 = 0 then bd (f_X12_isAtLoss x1 h2) (fun y3 h4 => (if y3 = 0 then some (zn (0 : Int32), h4) else some (zn (1 : Int32), h4))) else some (zn (1 : Int32), h2)))
def f_X12_begin (x1 : Int32) (h : AH) : Option (Int32 × AH) :=
  bd (f_X12_isClaim x1 h) (fun y1 h2 => (if y1 = 0 then some ((-1 : Int32), h2) else bd (f_X12_has (h2.1 34 0 16) x1 h2) (fun y3 h4 => (if y3 = 0 then bd (f_X12_isOver x1 (hsI (hsI h4 34 0 27 (1 : Int32)) 49 0 (0 : Int32).toNatClampNeg x1)) (fun y5 h6 => (if y5 = 0 then some ((0 : Int32), h6) else some ((1 : Int32), h6))) else some ((-4 : Int32), h4)))))
def f_X7_hasEvening (r0 : Nat) (h : AH) : Option (Int32 × AH) :=
  (if (h.1 8 r0 2) ≤ 0 then some (zn (0 : Int32), h) else some (zn (1 : Int32), h))
def b_X7_barredBits_4 (rc : Nat → Int32 → Int32 → AH → Option (Int32 × AH)) (r0 : Nat) (x1 : Int32) (x2 : Int32) (h : AH) : Option (Int32 × AH) :=
  (if (h.1 8 r0 2) ≤ x2 then some (x1, h) else (if inb x2 40 = true then rc r0 (x1 ||| ((1 : Int32) <<< ((h.1 10 r0 x2.toNatClampNeg) &&& 31))) (x2 + (1 : Int32)) h else none))
def l_X7_barredBits_4 : Nat → Nat → Int32 → Int32 → AH → Option (Int32 × AH)
  | 0 => fun _ _ _ _ => none
  | F + 1 => b_X7_barredBits_4 (l_X7_barredBits_4 F)
def c_X7_barredBits_19  (r0 : Nat) (x1 : Int32) (h : AH) : Option (Int32 × AH) :=
  (if (h.1 8 r0 5) = (1 : Int32) then some (x1, h) else some ((0 : Int32), h))
def f_X7_barredBits (r0 : Nat) (h : AH) : Option (Int32 × AH) :=
  bd (l_X7_barredBits_4 FU r0 (0 : Int32) (0 : Int32) h) (fun v h => c_X7_barredBits_19 r0 v h)
def b_X0_openReasons_4 (rc : Int32 → Int32 → Int32 → Int32 → AH → Option (Int32 × AH)) (x1 : Int32) (x2 : Int32) (x3 : Int32) (x4 : Int32) (h : AH) : Option (Int32 × AH) :=
  (if (h.1 12 0 6) ≤ x4 then some (x3, h) else (if inb x4 14 = true then (if (h.1 15 0 x4.toNatClampNeg) = x1 then bd (f_X0_isUsable x4 h) (fun y1 h2 => (if y1 = 0 then rc x1 x2 (x3 ||| (0 : Int32)) (x4 + (1 : Int32)) h2 else (if inb x4 14 = true then (if ((h2.1 16 0 x4.toNatClampNeg) &&& (x2 ^^^ (-1 : Int32))) = 0 then rc x1 x2 (x3 ||| (0 : Int32)) (x4 + (1 : Int32)) h2 else rc x1 x2 (x3 ||| ((1 : Int32) <<< (x4 &&& 31))) (x4 + (1 : Int32)) h2) else none))) else rc x1 x2 (x3 ||| (0 : Int32)) (x4 + (1 : Int32)) h) else none))
def l_X0_openReasons_4 : Nat → Int32 → Int32 → Int32 → Int32 → AH → Option (Int32 × AH)
  | 0 => fun _ _ _ _ _ => none
  | F + 1 => b_X0_openReasons_4 (l_X0_openReasons_4 F)
def c_X0_openReasons_46  (x3 : Int32) (h : AH) : Option (Int32 × AH) :=
  some (x3, h)
def f_X0_openReasons (x1 : Int32) (x2 : Int32) (h : AH) : Option (Int32 × AH) :=
  bd (l_X0_openReasons_4 FU x1 x2 (0 : Int32) (0 : Int32) h) (fun v h => c_X0_openReasons_46 v h)
def f_X0_canGo (x1 : Int32) (x2 : Int32) (x3 : Int32) (x4 : Int32) (h : AH) : Option (Int32 × AH) :=
  bd (f_X0_openReasons x1 x4 h) (fun y1 h2 => bd (f_X11_has y1 x2 h2) (fun y3 h4 => (if y3 = 0 then some (zn (0 : Int32), h4) else (if inb x2 14 = true then bd (f_X11_has ((h4.1 16 0 x2.toNatClampNeg) &&& (x4 ^^^ (-1 : Int32))) x3 h4) (fun y5 h6 => (if y5 = 0 then some (zn (0 : Int32), h6) else some (zn (1 : Int32), h6))) else none))))
def f_X7_answers (r0 : Nat) (h : AH) : Option (Int32 × AH) :=
  (if (h.1 8 r0 2) ≤ 0 then some ((0 : Int32), h) else some (((h.1 8 r0 2) - (1 : Int32)), h))
def f_X7_goTo (r0 : Nat) (x1 : Int32) (h : AH) : Option (Unit × AH) :=
  (if (nI 40) ≤ (h.1 8 r0 2) then some ((), h) else (if inb (h.1 8 r0 2) 40 = true then some ((), (hsI (hsI h 10 r0 (h.1 8 r0 2).toNatClampNeg x1) 8 r0 2 (((hsI h 10 r0 (h.1 8 r0 2).toNatClampNeg x1).1 8 r0 2) + (1 : Int32)))) else none))
def f_X11_answer (x1 : Int32) (x2 : Int32) (h : AH) : Option (Int32 × AH) :=
  bd (f_X11_isReason x1 h) (fun y1 h2 => (if y1 = 0 then some ((-1 : Int32), h2) else bd (f_X11_isClaim x2 h2) (fun y3 h4 => (if y3 = 0 then some ((-1 : Int32), h4) else bd (f_X7_hasEvening 3 h4) (fun y5 h6 => (if y5 = 0 then some ((-4 : Int32), h6) else bd (f_X7_place 3 h6) (fun y7 h8 => bd (f_X7_barredBits 3 h8) (fun y9 h10 => bd (f_X0_canGo y7 x1 x2 y9 h10) (fun y11 h12 => (if y11 = 0 then some ((-4 : Int32), h12) else bd (f_X7_answers 3 h12) (fun y13 h14 => (if y13 < (39 : Int32) then bd (f_X7_goTo 3 x2 h14) (fun _ h16 => bd (f_X11_overHere  h16) (fun y17 h18 => some (y17, h18))) else some ((-2 : Int32), h14)))))))))))))
def b_X12_mayAsk_m_askedOf_7 (rc : Int32 → Int32 → Int32 → AH → Option (Int32 × AH)) (x3 : Int32) (x4 : Int32) (x5 : Int32) (h : AH) : Option (Int32 × AH) :=
  (if x3 ≤ x5 then some (x4, h) else (if (h.1 34 0 18) = (1 : Int32) then (if inb x5 41 = true then rc x3 (x4 &&& (((1 : Int32) <<< ((h.1 49 0 x5.toNatClampNeg) &&& 31)) ^^^ (-1 : Int32))) (x5 + (1 : Int32)) h else none) else some (x4, h)))
def l_X12_mayAsk_m_askedOf_7 : Nat → Int32 → Int32 → Int32 → AH → Option (Int32 × AH)
  | 0 => fun _ _ _ _ => none
  | F + 1 => b_X12_mayAsk_m_askedOf_7 (l_X12_mayAsk_m_askedOf_7 F)
def c_X12_mayAsk_m_askedOf_26  (x4 : Int32) (h : AH) : Option (Int32 × AH) :=
  some (x4, h)
def f_X12_mayAsk_m_askedOf (x1 : Int32) (x3 : Int32) (h : AH) : Option (Int32 × AH) :=
  (if inb x1 14 = true then bd (l_X12_mayAsk_m_askedOf_7 FU x3 (h.1 43 0 x1.toNatClampNeg) (0 : Int32) h) (fun v h => c_X12_mayAsk_m_askedOf_26 v h) else none)
def b_X12_mayAnswer_m_askedOf_10 (rc : Int32 → Int32 → Int32 → Int32 → AH → Option (Int32 × AH)) (x2 : Int32) (x3 : Int32) (x4 : Int32) (x5 : Int32) (h : AH) : Option (Int32 × AH) :=
  (if (h.1 34 0 11) ≤ x5 then some (x4, h) else bd (f_X12_isOver x3 h) (fun y1 h2 => (if y1 = 0 then bd (f_X12_usableFor x3 h2) (fun y3 h4 => bd (f_X12_has y3 x5 h4) (fun y5 h6 => (if y5 = 0 then rc x2 x3 (x4 ||| (0 : Int32)) (x5 + (1 : Int32)) h6 else bd (f_X12_mayAsk_m_askedOf x5 x2 h6) (fun y7 h8 => (if y7 = 0 then rc x2 x3 (x4 ||| (0 : Int32)) (x5 + (1 : Int32)) h8 else rc x2 x3 (x4 ||| ((1 : Int32) <<< (x5 &&& 31))) (x5 + (1 : Int32)) h8))))) else some (x4, h2))))
def l_X12_mayAnswer_m_askedOf_10 : Nat → Int32 → Int32 → Int32 → Int32 → AH → Option (Int32 × AH)
  | 0 => fun _ _ _ _ _ => none
  | F + 1 => b_X12_mayAnswer_m_askedOf_10 (l_X12_mayAnswer_m_askedOf_10 F)
def c_X12_mayAnswer_m_askedOf_40  (x4 : Int32) (h : AH) : Option (Int32 × AH) :=
  some (x4, h)
def f_X12_mayAnswer_m_askedOf (x2 : Int32) (h : AH) : Option (Int32 × AH) :=
  (if inb (x2 - (1 : Int32)) 41 = true then bd (l_X12_mayAnswer_m_askedOf_10 FU x2 (h.1 49 0 (x2 - (1 : Int32)).toNatClampNeg) (0 : Int32) (0 : Int32) h) (fun v h => c_X12_mayAnswer_m_askedOf_40 v h) else none)
def f_X12_canAnswer_m_askedOf (x2 : Int32) (x3 : Int32) (x4 : Int32) (h : AH) : Option (Int32 × AH) :=
  bd (f_X12_mayAnswer_m_askedOf x2 h) (fun y1 h2 => bd (f_X12_has y1 x3 h2) (fun y3 h4 => (if y3 = 0 then some (zn (0 : Int32), h4) else bd (f_X12_mayAsk_m_askedOf x3 x2 h4) (fun y5 h6 => bd (f_X12_has y5 x4 h6) (fun y7 h8 => (if y7 = 0 then some (zn (0 : Int32), h8) else some (zn (1 : Int32), h8)))))))
def f_X12_answer (x1 : Int32) (x2 : Int32) (h : AH) : Option (Int32 × AH) :=
  bd (f_X12_isReason x1 h) (fun y1 h2 => (if y1 = 0 then some ((-1 : Int32), h2) else bd (f_X12_isClaim x2 h2) (fun y3 h4 => (if y3 = 0 then some ((-1 : Int32), h4) else (if (h4.1 34 0 27) = 0 then some ((-4 : Int32), h4) else bd (f_X12_canAnswer_m_askedOf (h4.1 34 0 27) x1 x2 h4) (fun y5 h6 => (if y5 = 0 then some ((-4 : Int32), h6) else (if (h6.1 34 0 27) ≤ (39 : Int32) then (if inb (h6.1 34 0 27) 41 = true then bd (f_X12_isOver x2 (hsI (hsI h6 49 0 (h6.1 34 0 27).toNatClampNeg x2) 34 0 27 (((hsI h6 49 0 (h6.1 34 0 27).toNatClampNeg x2).1 34 0 27) + (1 : Int32)))) (fun y7 h8 => (if y7 = 0 then some ((0 : Int32), h8) else some ((1 : Int32), h8))) else none) else some ((-2 : Int32), h6)))))))))
def f_X7_cutTo (r0 : Nat) (x1 : Int32) (h : AH) : Option (Unit × AH) :=
  (if (h.1 8 r0 2) ≤ 0 then some ((), h) else some ((), (hsI h 8 r0 2 (x1 + (1 : Int32)))))
def f_X11_undo (x1 : Int32) (h : AH) : Option (Int32 × AH) :=
  bd (f_X7_answers 3 h) (fun y1 h2 => (if x1 < 0 then some ((-1 : Int32), h2) else (if x1 ≤ y1 then bd (f_X7_cutTo 3 x1 h2) (fun _ h4 => some ((y1 - x1), h4)) else some ((-1 : Int32), h2))))
def f_X12_answerMany  (h : AH) : Option (Int32 × AH) :=
  (if (h.1 34 0 27) = 0 then some ((0 : Int32), h) else some (((h.1 34 0 27) - (1 : Int32)), h))
def f_X12_undo (x1 : Int32) (h : AH) : Option (Int32 × AH) :=
  bd (f_X12_answerMany  h) (fun y1 h2 => bd (f_X12_in x1 (0 : Int32) y1 h2) (fun y3 h4 => (if y3 = 0 then some ((-1 : Int32), h4) else bd (f_X12_answerMany  h4) (fun y5 h6 => some ((y5 - x1), (hsI h6 34 0 27 ((h6.1 34 0 27) - (y5 - x1))))))))
def f_X11_here  (h : AH) : Option (Int32 × AH) :=
  bd (f_X7_hasEvening 3 h) (fun y1 h2 => (if y1 = 0 then some ((-4 : Int32), h2) else bd (f_X7_answers 3 h2) (fun y3 h4 => bd (f_X7_place 3 (hsI h4 0 0 14 y3)) (fun y5 h6 => some (y5, h6)))))
def f_X12_here  (h : AH) : Option (Int32 × AH) :=
  (if (h.1 34 0 27) = 0 then some ((-4 : Int32), h) else bd (f_X12_answerMany  h) (fun y1 h2 => (if inb ((h2.1 34 0 27) - (1 : Int32)) 41 = true then bd (f_X12_tells y1 (h2.1 49 0 ((h2.1 34 0 27) - (1 : Int32)).toNatClampNeg) h2) (fun y3 h4 => some (y3, h4)) else none)))
def f_X11_may  (h : AH) : Option (Int32 × AH) :=
  bd (f_X7_hasEvening 3 h) (fun y1 h2 => (if y1 = 0 then some ((-4 : Int32), h2) else bd (f_X7_place 3 h2) (fun y3 h4 => bd (f_X7_barredBits 3 h4) (fun y5 h6 => bd (f_X0_openReasons y3 y5 h6) (fun y7 h8 => some (y7, h8))))))
def f_X12_may  (h : AH) : Option (Int32 × AH) :=
  (if (h.1 34 0 27) = 0 then some ((-4 : Int32), h) else bd (f_X12_mayAnswer_m_askedOf (h.1 34 0 27) h) (fun y1 h2 => some (y1, h2)))
def f_X0_wayOut (x1 : Int32) (x2 : Int32) (h : AH) : Option (Int32 × AH) :=
  bd (f_X0_lossBits  h) (fun y1 h2 => bd (f_X11_has y1 x1 h2) (fun y3 h4 => (if y3 = 0 then bd (f_X6_bitsOf 0 (1 : Int32) h4) (fun y5 h6 => bd (f_X11_has y5 x1 h6) (fun y7 h8 => (if y7 = 0 then bd (f_X0_openReasons x1 x2 h8) (fun y9 h10 => (if y9 = 0 then some ((3 : Int32), h10) else some ((0 : Int32), h10))) else some ((1 : Int32), h8)))) else some ((2 : Int32), h4))))
def f_X11_ends  (h : AH) : Option (Int32 × AH) :=
  bd (f_X7_hasEvening 3 h) (fun y1 h2 => (if y1 = 0 then some ((-4 : Int32), h2) else bd (f_X7_place 3 h2) (fun y3 h4 => bd (f_X7_barredBits 3 h4) (fun y5 h6 => bd (f_X0_wayOut y3 y5 h6) (fun y7 h8 => some (y7, h8))))))
def f_X12_endOf_m_askedOf (x2 : Int32) (h : AH) : Option (Int32 × AH) :=
  (if inb (x2 - (1 : Int32)) 41 = true then (if inb (h.1 49 0 (x2 - (1 : Int32)).toNatClampNeg) 10 = true then (if (h.1 41 0 (h.1 49 0 (x2 - (1 : Int32)).toNatClampNeg).toNatClampNeg) = (1 : Int32) then some ((1 : Int32), h) else bd (f_X12_isAtLoss (h.1 49 0 (x2 - (1 : Int32)).toNatClampNeg) h) (fun y1 h2 => (if y1 = 0 then bd (f_X12_mayAnswer_m_askedOf x2 h2) (fun y3 h4 => (if y3 = 0 then some ((3 : Int32), h4) else some ((0 : Int32), h4))) else some ((2 : Int32), h2)))) else none) else none)
def f_X12_ends  (h : AH) : Option (Int32 × AH) :=
  (if (h.1 34 0 27) = 0 then some ((-4 : Int32), h) else bd (f_X12_endOf_m_askedOf (h.1 34 0 27) h) (fun y1 h2 => some (y1, h2)))
def b_X5_take_trail_5 (rc : Nat → Nat → Int32 → Int32 → AH → Option (Unit × AH)) (r0 : Nat) (r1 : Nat) (x2 : Int32) (x3 : Int32) (h : AH) : Option (Unit × AH) :=
  (if x2 ≤ x3 then some ((), h) else (if (40 : Int32) ≤ x3 then some ((), h) else (if (nI 40) ≤ x3 then some ((), h) else (if inb x3 40 = true then (if inb x3 40 = true then rc r0 r1 x2 (x3 + (1 : Int32)) (hsI h 3 r0 x3.toNatClampNeg (h.1 10 r1 x3.toNatClampNeg)) else none) else none))))
def l_X5_take_trail_5 : Nat → Nat → Nat → Int32 → Int32 → AH → Option (Unit × AH)
  | 0 => fun _ _ _ _ _ => none
  | F + 1 => b_X5_take_trail_5 (l_X5_take_trail_5 F)
def c_X5_take_trail_24   (h : AH) : Option (Unit × AH) :=
  some ((), h)
def f_X5_take_trail (r0 : Nat) (r1 : Nat) (x2 : Int32) (h : AH) : Option (Unit × AH) :=
  bd (f_X5_renew r0 x2 h) (fun _ h2 => bd (l_X5_take_trail_5 FU r0 r1 x2 (0 : Int32) h2) (fun v h => c_X5_take_trail_24 h))
def f_X11_asks (x1 : Int32) (h : AH) : Option (Int32 × AH) :=
  bd (f_X11_isRow x1 h) (fun y1 h2 => (if y1 = 0 then some ((-1 : Int32), h2) else bd (f_X7_hasEvening 3 h2) (fun y3 h4 => (if y3 = 0 then some ((-4 : Int32), h4) else (if inb x1 6 = true then bd (f_X5_take_trail (x1.toNatClampNeg) 3 (h4.1 8 3 2) h4) (fun _ h6 => some ((h6.1 8 3 2), h6)) else none)))))
def f_X12_lesser (x0 : Int32) (x1 : Int32) (h : AH) : Option (Int32 × AH) :=
  (if x1 ≤ x0 then some (x1, h) else some (x0, h))
def b_X12_layRow_m_askedOf_7 (rc : Int32 → Int32 → Int32 → AH → Option (Unit × AH)) (x1 : Int32) (x3 : Int32) (x4 : Int32) (h : AH) : Option (Unit × AH) :=
  (if (40 : Int32) ≤ x4 then some ((), h) else (if x3 ≤ x4 then (if inb (((40 : Int32) * x1) + x4) 240 = true then rc x1 x3 (x4 + (1 : Int32)) (hsI h 37 0 (((40 : Int32) * x1) + x4).toNatClampNeg (0 : Int32)) else none) else (if inb x4 41 = true then (if inb (((40 : Int32) * x1) + x4) 240 = true then rc x1 x3 (x4 + (1 : Int32)) (hsI h 37 0 (((40 : Int32) * x1) + x4).toNatClampNeg (h.1 49 0 x4.toNatClampNeg)) else none) else none)))
def l_X12_layRow_m_askedOf_7 : Nat → Int32 → Int32 → Int32 → AH → Option (Unit × AH)
  | 0 => fun _ _ _ _ => none
  | F + 1 => b_X12_layRow_m_askedOf_7 (l_X12_layRow_m_askedOf_7 F)
def c_X12_layRow_m_askedOf_28   (h : AH) : Option (Unit × AH) :=
  some ((), h)
def f_X12_layRow_m_askedOf (x1 : Int32) (x3 : Int32) (h : AH) : Option (Unit × AH) :=
  (if inb x1 6 = true then bd (l_X12_layRow_m_askedOf_7 FU x1 x3 (0 : Int32) (hsI h 36 0 x1.toNatClampNeg x3)) (fun v h => c_X12_layRow_m_askedOf_28 h) else none)
def f_X12_asks (x1 : Int32) (h : AH) : Option (Int32 × AH) :=
  bd (f_X12_isRow x1 h) (fun y1 h2 => (if y1 = 0 then some ((-1 : Int32), h2) else (if (h2.1 34 0 27) = 0 then some ((-4 : Int32), h2) else bd (f_X12_lesser (h2.1 34 0 27) (40 : Int32) h2) (fun y3 h4 => bd (f_X12_layRow_m_askedOf x1 y3 h4) (fun _ h6 => some ((h6.1 34 0 27), h6))))))
def f_X11_isImage (x0 : Int32) (h : AH) : Option (Int32 × AH) :=
  (if x0 < 0 then some (zn (0 : Int32), h) else (if (3 : Int32) ≤ x0 then some (zn (0 : Int32), h) else some (zn (1 : Int32), h)))
def f_X7_become (r0 : Nat) (r1 : Nat) (h : AH) : Option (Unit × AH) :=
  some ((), (hcp (hcp (hsI (hsI (hsI (hsI h 8 r0 2 (h.1 8 r1 2)) 8 r0 3 ((hsI h 8 r0 2 (h.1 8 r1 2)).1 8 r1 3)) 8 r0 4 ((hsI (hsI h 8 r0 2 (h.1 8 r1 2)) 8 r0 3 ((hsI h 8 r0 2 (h.1 8 r1 2)).1 8 r1 3)).1 8 r1 4)) 8 r0 5 ((hsI (hsI (hsI h 8 r0 2 (h.1 8 r1 2)) 8 r0 3 ((hsI h 8 r0 2 (h.1 8 r1 2)).1 8 r1 3)) 8 r0 4 ((hsI (hsI h 8 r0 2 (h.1 8 r1 2)) 8 r0 3 ((hsI h 8 r0 2 (h.1 8 r1 2)).1 8 r1 3)).1 8 r1 4)).1 8 r1 5)) 9 r1 9 r0 (0 : Int32).toNatClampNeg (0 : Int32).toNatClampNeg (14 : Int32).toNatClampNeg) 10 r1 10 r0 (0 : Int32).toNatClampNeg (0 : Int32).toNatClampNeg (40 : Int32).toNatClampNeg))
def f_X11_image (x1 : Int32) (h : AH) : Option (Int32 × AH) :=
  bd (f_X11_isImage x1 h) (fun y1 h2 => (if y1 = 0 then some ((-1 : Int32), h2) else (if (h2.1 12 0 5) = 0 then some ((-4 : Int32), h2) else (if inb x1 3 = true then bd (f_X7_become (x1.toNatClampNeg) 3 h2) (fun _ h4 => (if inb x1 3 = true then bd (f_X7_answers 3 (hsI h4 8 (x1.toNatClampNeg) 6 (1 : Int32))) (fun y5 h6 => some (y5, h6)) else none)) else none))))
def b_X12_image_53 (rc : Int32 → Int32 → AH → Option (Unit × AH)) (x1 : Int32) (x2 : Int32) (h : AH) : Option (Unit × AH) :=
  (if (h.1 34 0 27) ≤ x2 then some ((), h) else (if inb x2 41 = true then (if inb (((41 : Int32) * x1) + x2) 123 = true then rc x1 (x2 + (1 : Int32)) (hsI h 52 0 (((41 : Int32) * x1) + x2).toNatClampNeg (h.1 49 0 x2.toNatClampNeg)) else none) else none))
def l_X12_image_53 : Nat → Int32 → Int32 → AH → Option (Unit × AH)
  | 0 => fun _ _ _ => none
  | F + 1 => b_X12_image_53 (l_X12_image_53 F)
def b_X12_image_73 (rc : Int32 → Int32 → AH → Option (Unit × AH)) (x1 : Int32) (x2 : Int32) (h : AH) : Option (Unit × AH) :=
  (if (h.1 34 0 11) ≤ x2 then some ((), h) else (if inb x2 14 = true then (if inb (((14 : Int32) * x1) + x2) 42 = true then rc x1 (x2 + (1 : Int32)) (hsI h 54 0 (((14 : Int32) * x1) + x2).toNatClampNeg (h.1 44 0 x2.toNatClampNeg)) else none) else none))
def l_X12_image_73 : Nat → Int32 → Int32 → AH → Option (Unit × AH)
  | 0 => fun _ _ _ => none
  | F + 1 => b_X12_image_73 (l_X12_image_73 F)
def c_X12_image_91   (h : AH) : Option (Int32 × AH) :=
  bd (f_X12_answerMany  h) (fun y1 h2 => some (y1, h2))
def c_X12_image_71  (x1 : Int32) (h : AH) : Option (Int32 × AH) :=
  bd (l_X12_image_73 FU x1 (0 : Int32) h) (fun v h => c_X12_image_91 h)
def f_X12_image (x1 : Int32) (h : AH) : Option (Int32 × AH) :=
  bd (f_X12_in x1 (0 : Int32) (2 : Int32) h) (fun y1 h2 => (if y1 = 0 then some ((-1 : Int32), h2) else (if (h2.1 34 0 10) = 0 then some ((-4 : Int32), h2) else (if inb x1 3 = true then (if inb x1 3 = true then (if inb ((3 : Int32) * x1) 9 = true then (if inb (((3 : Int32) * x1) + (1 : Int32)) 9 = true then (if inb (((3 : Int32) * x1) + (2 : Int32)) 9 = true then bd (l_X12_image_53 FU x1 (0 : Int32) (hsI (hsI (hsI (hsI (hsI h2 50 0 x1.toNatClampNeg (zn (1 : Int32))) 51 0 x1.toNatClampNeg ((hsI h2 50 0 x1.toNatClampNeg (zn (1 : Int32))).1 34 0 27)) 53 0 ((3 : Int32) * x1).toNatClampNeg ((hsI (hsI h2 50 0 x1.toNatClampNeg (zn (1 : Int32))) 51 0 x1.toNatClampNeg ((hsI h2 50 0 x1.toNatClampNeg (zn (1 : Int32))).1 34 0 27)).1 34 0 16)) 53 0 (((3 : Int32) * x1) + (1 : Int32)).toNatClampNeg ((hsI (hsI (hsI h2 50 0 x1.toNatClampNeg (zn (1 : Int32))) 51 0 x1.toNatClampNeg ((hsI h2 50 0 x1.toNatClampNeg (zn (1 : Int32))).1 34 0 27)) 53 0 ((3 : Int32) * x1).toNatClampNeg ((hsI (hsI h2 50 0 x1.toNatClampNeg (zn (1 : Int32))) 51 0 x1.toNatClampNeg ((hsI h2 50 0 x1.toNatClampNeg (zn (1 : Int32))).1 34 0 27)).1 34 0 16)).1 34 0 17)) 53 0 (((3 : Int32) * x1) + (2 : Int32)).toNatClampNeg ((hsI (hsI (hsI (hsI h2 50 0 x1.toNatClampNeg (zn (1 : Int32))) 51 0 x1.toNatClampNeg ((hsI h2 50 0 x1.toNatClampNeg (zn (1 : Int32))).1 34 0 27)) 53 0 ((3 : Int32) * x1).toNatClampNeg ((hsI (hsI h2 50 0 x1.toNatClampNeg (zn (1 : Int32))) 51 0 x1.toNatClampNeg ((hsI h2 50 0 x1.toNatClampNeg (zn (1 : Int32))).1 34 0 27)).1 34 0 16)) 53 0 (((3 : Int32) * x1) + (1 : Int32)).toNatClampNeg ((hsI (hsI (hsI h2 50 0 x1.toNatClampNeg (zn (1 : Int32))) 51 0 x1.toNatClampNeg ((hsI h2 50 0 x1.toNatClampNeg (zn (1 : Int32))).1 34 0 27)) 53 0 ((3 : Int32) * x1).toNatClampNeg ((hsI (hsI h2 50 0 x1.toNatClampNeg (zn (1 : Int32))) 51 0 x1.toNatClampNeg ((hsI h2 50 0 x1.toNatClampNeg (zn (1 : Int32))).1 34 0 27)).1 34 0 16)).1 34 0 17)).1 34 0 18))) (fun v h => c_X12_image_71 x1 h) else none) else none) else none) else none) else none))))
def f_X11_on (x1 : Int32) (h : AH) : Option (Int32 × AH) :=
  bd (f_X11_isImage x1 h) (fun y1 h2 => (if y1 = 0 then some ((-1 : Int32), h2) else (if inb x1 3 = true then (if (h2.1 8 (x1.toNatClampNeg) 6) = 0 then bd (f_X11_refuse (1 : Int32) h2) (fun y3 h4 => some (y3, h4)) else (if inb x1 3 = true then bd (f_X7_become 3 (x1.toNatClampNeg) h2) (fun _ h6 => bd (f_X7_answers 3 h6) (fun y7 h8 => some (y7, h8))) else none)) else none)))
def b_X12_on_52 (rc : Int32 → Int32 → AH → Option (Unit × AH)) (x1 : Int32) (x2 : Int32) (h : AH) : Option (Unit × AH) :=
  (if (h.1 34 0 27) ≤ x2 then some ((), h) else (if inb (((41 : Int32) * x1) + x2) 123 = true then (if inb x2 41 = true then rc x1 (x2 + (1 : Int32)) (hsI h 49 0 x2.toNatClampNeg (h.1 52 0 (((41 : Int32) * x1) + x2).toNatClampNeg)) else none) else none))
def l_X12_on_52 : Nat → Int32 → Int32 → AH → Option (Unit × AH)
  | 0 => fun _ _ _ => none
  | F + 1 => b_X12_on_52 (l_X12_on_52 F)
def b_X12_on_72 (rc : Int32 → Int32 → AH → Option (Unit × AH)) (x1 : Int32) (x2 : Int32) (h : AH) : Option (Unit × AH) :=
  (if (h.1 34 0 11) ≤ x2 then some ((), h) else (if inb (((14 : Int32) * x1) + x2) 42 = true then (if inb x2 14 = true then rc x1 (x2 + (1 : Int32)) (hsI h 44 0 x2.toNatClampNeg (h.1 54 0 (((14 : Int32) * x1) + x2).toNatClampNeg)) else none) else none))
def l_X12_on_72 : Nat → Int32 → Int32 → AH → Option (Unit × AH)
  | 0 => fun _ _ _ => none
  | F + 1 => b_X12_on_72 (l_X12_on_72 F)
def c_X12_on_90   (h : AH) : Option (Int32 × AH) :=
  bd (f_X12_answerMany  h) (fun y1 h2 => some (y1, h2))
def c_X12_on_70  (x1 : Int32) (h : AH) : Option (Int32 × AH) :=
  bd (l_X12_on_72 FU x1 (0 : Int32) h) (fun v h => c_X12_on_90 h)
def f_X12_on (x1 : Int32) (h : AH) : Option (Int32 × AH) :=
  bd (f_X12_in x1 (0 : Int32) (2 : Int32) h) (fun y1 h2 => (if y1 = 0 then some ((-1 : Int32), h2) else (if inb x1 3 = true then (if (h2.1 50 0 x1.toNatClampNeg) = 0 then bd (f_X12_meets (1 : Int32) h2) (fun y3 h4 => some (y3, h4)) else (if inb x1 3 = true then (if inb ((3 : Int32) * x1) 9 = true then (if inb (((3 : Int32) * x1) + (1 : Int32)) 9 = true then (if inb (((3 : Int32) * x1) + (2 : Int32)) 9 = true then bd (l_X12_on_52 FU x1 (0 : Int32) (hsI (hsI (hsI (hsI h2 34 0 27 (h2.1 51 0 x1.toNatClampNeg)) 34 0 16 ((hsI h2 34 0 27 (h2.1 51 0 x1.toNatClampNeg)).1 53 0 ((3 : Int32) * x1).toNatClampNeg)) 34 0 17 ((hsI (hsI h2 34 0 27 (h2.1 51 0 x1.toNatClampNeg)) 34 0 16 ((hsI h2 34 0 27 (h2.1 51 0 x1.toNatClampNeg)).1 53 0 ((3 : Int32) * x1).toNatClampNeg)).1 53 0 (((3 : Int32) * x1) + (1 : Int32)).toNatClampNeg)) 34 0 18 ((hsI (hsI (hsI h2 34 0 27 (h2.1 51 0 x1.toNatClampNeg)) 34 0 16 ((hsI h2 34 0 27 (h2.1 51 0 x1.toNatClampNeg)).1 53 0 ((3 : Int32) * x1).toNatClampNeg)) 34 0 17 ((hsI (hsI h2 34 0 27 (h2.1 51 0 x1.toNatClampNeg)) 34 0 16 ((hsI h2 34 0 27 (h2.1 51 0 x1.toNatClampNeg)).1 53 0 ((3 : Int32) * x1).toNatClampNeg)).1 53 0 (((3 : Int32) * x1) + (1 : Int32)).toNatClampNeg)).1 53 0 (((3 : Int32) * x1) + (2 : Int32)).toNatClampNeg))) (fun v h => c_X12_on_70 x1 h) else none) else none) else none) else none)) else none)))
def f_X11_stands  (h : AH) : Option (Int32 × AH) :=
  bd (f_X0_standing  h) (fun y1 h2 => bd (f_X6_allBits 0 h2) (fun y3 h4 => some (y1, (hsI h4 0 0 14 ((y3 &&& (y1 ^^^ (-1 : Int32))) &&& ((h4.1 8 3 3) ^^^ (-1 : Int32)))))))
def f_X12_stands  (h : AH) : Option (Int32 × AH) :=
  bd (f_X12_standNow  h) (fun y1 h2 => bd (f_X12_allClaims  h2) (fun y3 h4 => bd (f_X12_tells ((y3 &&& ((h4.1 34 0 16) ^^^ (-1 : Int32))) &&& (y1 ^^^ (-1 : Int32))) y1 h4) (fun y5 h6 => some (y5, h6))))
def f_X10_isFirm (x1 : Int32) (x2 : Int32) (h : AH) : Option (Int32 × AH) :=
  bd (f_X0_isUsable x1 h) (fun y1 h2 => (if y1 = 0 then some (zn (0 : Int32), h2) else (if inb x1 14 = true then (if ((h2.1 16 0 x1.toNatClampNeg) &&& (x2 ^^^ (-1 : Int32))) = 0 then some (zn (1 : Int32), h2) else some (zn (0 : Int32), h2)) else none)))
def f_J9_max_7cf53 (x0 : Int32) (x1 : Int32) (h : AH) : Option (Int32 × AH) :=
  (if x0 < x1 then some (x1, h) else some (x0, h))
def f_J9_min_7cf53 (x0 : Int32) (x1 : Int32) (h : AH) : Option (Int32 × AH) :=
  (if x1 < x0 then some (x1, h) else some (x0, h))
def b_X10_costBy_6 (rc : Int32 → Int32 → Int32 → Int32 → Int32 → AH → Option ((Int32 × Int32) × AH)) (x1 : Int32) (x2 : Int32) (x3 : Int32) (x4 : Int32) (x5 : Int32) (h : AH) : Option ((Int32 × Int32) × AH) :=
  (if (h.1 12 0 5) ≤ x5 then some ((x3, x4), h) else (if inb x1 14 = true then bd (f_X11_has (h.1 16 0 x1.toNatClampNeg) x5 h) (fun y1 h2 => (if y1 = 0 then rc x1 x2 x3 x4 (x5 + (1 : Int32)) h2 else (if inb x5 10 = true then bd (f_J9_max_7cf53 x3 (h2.1 21 0 x5.toNatClampNeg) h2) (fun y3 h4 => (if inb x5 10 = true then rc x1 x2 y3 (x4 + (h4.1 21 0 x5.toNatClampNeg)) (x5 + (1 : Int32)) h4 else none)) else none))) else none))
def l_X10_costBy_6 : Nat → Int32 → Int32 → Int32 → Int32 → Int32 → AH → Option ((Int32 × Int32) × AH)
  | 0 => fun _ _ _ _ _ _ => none
  | F + 1 => b_X10_costBy_6 (l_X10_costBy_6 F)
def c_X10_costBy_35  (x1 : Int32) (x2 : Int32) (x3 : Int32) (x4 : Int32) (h : AH) : Option (Int32 × AH) :=
  (if x3 < (1000000 : Int32) then (if x2 = 0 then some (((1 : Int32) + x3), h) else (if x2 = 1 then bd (f_J9_min_7cf53 (999 : Int32) ((1 : Int32) + x4) h) (fun y1 h2 => some (y1, h2)) else (if inb x1 14 = true then bd (f_J9_max_7cf53 x3 ((9 : Int32) - (h.1 9 3 x1.toNatClampNeg)) h) (fun y3 h4 => some (y3, h4)) else none))) else some ((1000000 : Int32), h))
def f_X10_costBy (x1 : Int32) (x2 : Int32) (h : AH) : Option (Int32 × AH) :=
  bd (l_X10_costBy_6 FU x1 x2 (0 : Int32) (0 : Int32) (0 : Int32) h) (fun v h => c_X10_costBy_35 x1 x2 v.1 v.2 h)
def b_X10_relax_4 (rc : Int32 → Int32 → Int32 → Int32 → AH → Option (Int32 × AH)) (x1 : Int32) (x2 : Int32) (x3 : Int32) (x4 : Int32) (h : AH) : Option (Int32 × AH) :=
  (if (h.1 12 0 6) ≤ x4 then some (x3, h) else (if inb x4 14 = true then bd (f_X10_isFirm x4 x1 h) (fun y1 h2 => (if y1 = 0 then rc x1 x2 x3 (x4 + (1 : Int32)) h2 else bd (f_X10_costBy x4 x2 h2) (fun y3 h4 => (if x3 = 0 then (if inb (h.1 15 0 x4.toNatClampNeg) 10 = true then (if (h4.1 21 0 (h.1 15 0 x4.toNatClampNeg).toNatClampNeg) ≤ y3 then (if inb (h.1 15 0 x4.toNatClampNeg) 10 = true then bd (f_J9_min_7cf53 (h4.1 21 0 (h.1 15 0 x4.toNatClampNeg).toNatClampNeg) y3 h4) (fun y5 h6 => (if inb (h.1 15 0 x4.toNatClampNeg) 10 = true then rc x1 x2 (0 : Int32) (x4 + (1 : Int32)) (hsI h6 21 0 (h.1 15 0 x4.toNatClampNeg).toNatClampNeg y5) else none)) else none) else (if inb (h.1 15 0 x4.toNatClampNeg) 10 = true then bd (f_J9_min_7cf53 (h4.1 21 0 (h.1 15 0 x4.toNatClampNeg).toNatClampNeg) y3 h4) (fun y7 h8 => (if inb (h.1 15 0 x4.toNatClampNeg) 10 = true then rc x1 x2 (1 : Int32) (x4 + (1 : Int32)) (hsI h8 21 0 (h.1 15 0 x4.toNatClampNeg).toNatClampNeg y7) else none)) else none)) else none) else (if inb (h.1 15 0 x4.toNatClampNeg) 10 = true then bd (f_J9_min_7cf53 (h4.1 21 0 (h.1 15 0 x4.toNatClampNeg).toNatClampNeg) y3 h4) (fun y9 h10 => (if inb (h.1 15 0 x4.toNatClampNeg) 10 = true then rc x1 x2 (1 : Int32) (x4 + (1 : Int32)) (hsI h10 21 0 (h.1 15 0 x4.toNatClampNeg).toNatClampNeg y9) else none)) else none))))) else none))
def l_X10_relax_4 : Nat → Int32 → Int32 → Int32 → Int32 → AH → Option (Int32 × AH)
  | 0 => fun _ _ _ _ _ => none
  | F + 1 => b_X10_relax_4 (l_X10_relax_4 F)
def c_X10_relax_49  (x3 : Int32) (h : AH) : Option (Int32 × AH) :=
  some (zn x3, h)
def f_X10_relax (x1 : Int32) (x2 : Int32) (h : AH) : Option (Int32 × AH) :=
  bd (l_X10_relax_4 FU x1 x2 (0 : Int32) (0 : Int32) h) (fun v h => c_X10_relax_49 v h)
def b_X10_leastFrom_6 (rc : Int32 → Int32 → Int32 → Int32 → AH → Option (Unit × AH)) (x1 : Int32) (x2 : Int32) (x3 : Int32) (x4 : Int32) (h : AH) : Option (Unit × AH) :=
  (if (h.1 12 0 5) ≤ x4 then some ((), h) else bd (f_X6_bitsOf 0 (1 : Int32) h) (fun y1 h2 => bd (f_X11_has (x3 &&& y1) x4 h2) (fun y3 h4 => (if y3 = 0 then (if inb x4 10 = true then rc x1 x2 x3 (x4 + (1 : Int32)) (hsI h4 21 0 x4.toNatClampNeg (1000000 : Int32)) else none) else (if inb x4 10 = true then rc x1 x2 x3 (x4 + (1 : Int32)) (hsI h4 21 0 x4.toNatClampNeg (0 : Int32)) else none)))))
def l_X10_leastFrom_6 : Nat → Int32 → Int32 → Int32 → Int32 → AH → Option (Unit × AH)
  | 0 => fun _ _ _ _ _ => none
  | F + 1 => b_X10_leastFrom_6 (l_X10_leastFrom_6 F)
def b_X10_leastFrom_33 (rc : Int32 → Int32 → Int32 → Int32 → Int32 → AH → Option (Unit × AH)) (x1 : Int32) (x2 : Int32) (x3 : Int32) (x4 : Int32) (x5 : Int32) (h : AH) : Option (Unit × AH) :=
  (if x4 = 0 then some ((), h) else (if (10 : Int32) < x5 then some ((), h) else bd (f_X10_relax x3 x2 h) (fun y1 h2 => rc x1 x2 x3 y1 (x5 + (1 : Int32)) h2)))
def l_X10_leastFrom_33 : Nat → Int32 → Int32 → Int32 → Int32 → Int32 → AH → Option (Unit × AH)
  | 0 => fun _ _ _ _ _ _ => none
  | F + 1 => b_X10_leastFrom_33 (l_X10_leastFrom_33 F)
def c_X10_leastFrom_45  (x1 : Int32) (x3 : Int32) (h : AH) : Option (Int32 × AH) :=
  bd (f_X11_has x3 x1 h) (fun y1 h2 => (if y1 = 0 then some ((-9 : Int32), h2) else (if inb x1 10 = true then some ((h2.1 21 0 x1.toNatClampNeg), h2) else none)))
def c_X10_leastFrom_29  (x1 : Int32) (x2 : Int32) (x3 : Int32) (h : AH) : Option (Int32 × AH) :=
  bd (l_X10_leastFrom_33 FU x1 x2 x3 (1 : Int32) (0 : Int32) h) (fun v h => c_X10_leastFrom_45 x1 x3 h)
def f_X10_leastFrom (x1 : Int32) (x2 : Int32) (h : AH) : Option (Int32 × AH) :=
  bd (f_X0_standing  h) (fun y1 h2 => bd (l_X10_leastFrom_6 FU x1 x2 y1 (0 : Int32) h2) (fun v h => c_X10_leastFrom_29 x1 x2 y1 h))
def b_X10_firstLeast_6 (rc : Int32 → Int32 → Int32 → Int32 → AH → Option (Int32 × AH)) (x1 : Int32) (x2 : Int32) (x3 : Int32) (x4 : Int32) (h : AH) : Option (Int32 × AH) :=
  (if (h.1 12 0 6) ≤ x4 then some ((-9 : Int32), h) else (if inb x4 14 = true then (if (h.1 15 0 x4.toNatClampNeg) = x1 then bd (f_X10_isFirm x4 x3 h) (fun y1 h2 => (if y1 = 0 then rc x1 x2 x3 (x4 + (1 : Int32)) h2 else bd (f_X10_costBy x4 x2 h2) (fun y3 h4 => (if inb x1 10 = true then (if y3 = (h4.1 21 0 x1.toNatClampNeg) then some (x4, h4) else rc x1 x2 x3 (x4 + (1 : Int32)) h4) else none)))) else rc x1 x2 x3 (x4 + (1 : Int32)) h) else none))
def l_X10_firstLeast_6 : Nat → Int32 → Int32 → Int32 → Int32 → AH → Option (Int32 × AH)
  | 0 => fun _ _ _ _ _ => none
  | F + 1 => b_X10_firstLeast_6 (l_X10_firstLeast_6 F)
def f_X10_firstLeast (x1 : Int32) (x2 : Int32) (h : AH) : Option (Int32 × AH) :=
  bd (f_X0_standing  h) (fun y1 h2 => l_X10_firstLeast_6 FU x1 x2 y1 (0 : Int32) h2)
def f_X11_soonest (x1 : Int32) (h : AH) : Option (Int32 × AH) :=
  bd (f_X11_isClaim x1 h) (fun y1 h2 => (if y1 = 0 then some ((-1 : Int32), h2) else bd (f_X10_leastFrom x1 (0 : Int32) h2) (fun y3 h4 => (if y3 = (-9 : Int32) then some (y3, h4) else bd (f_X10_firstLeast x1 (0 : Int32) h4) (fun y5 h6 => some (y3, (hsI h6 0 0 14 y5)))))))
def b_X12_takeThens_2 (rc : Int32 → AH → Option (Unit × AH)) (x1 : Int32) (h : AH) : Option (Unit × AH) :=
  (if (h.1 34 0 10) ≤ x1 then some ((), h) else (if inb x1 10 = true then (if inb x1 10 = true then rc (x1 + (1 : Int32)) (hsI h 55 0 x1.toNatClampNeg (h.1 56 0 x1.toNatClampNeg)) else none) else none))
def l_X12_takeThens_2 : Nat → Int32 → AH → Option (Unit × AH)
  | 0 => fun _ _ => none
  | F + 1 => b_X12_takeThens_2 (l_X12_takeThens_2 F)
def c_X12_takeThens_16   (h : AH) : Option (Unit × AH) :=
  some ((), h)
def f_X12_takeThens  (h : AH) : Option (Unit × AH) :=
  bd (l_X12_takeThens_2 FU (0 : Int32) h) (fun v h => c_X12_takeThens_16 h)
def f_X12_greater (x0 : Int32) (x1 : Int32) (h : AH) : Option (Int32 × AH) :=
  (if x0 ≤ x1 then some (x1, h) else some (x0, h))
def b_X12_greatestPart_4 (rc : Int32 → Int32 → Int32 → AH → Option (Int32 × AH)) (x1 : Int32) (x2 : Int32) (x3 : Int32) (h : AH) : Option (Int32 × AH) :=
  (if (h.1 34 0 10) ≤ x3 then some (x2, h) else (if inb x1 14 = true then bd (f_X12_has (h.1 43 0 x1.toNatClampNeg) x3 h) (fun y1 h2 => (if y1 = 0 then rc x1 x2 (x3 + (1 : Int32)) h2 else (if x2 = (-9 : Int32) then rc x1 (-9 : Int32) (x3 + (1 : Int32)) h2 else (if inb x3 10 = true then (if (h2.1 55 0 x3.toNatClampNeg) = (-9 : Int32) then rc x1 (-9 : Int32) (x3 + (1 : Int32)) h2 else (if inb x3 10 = true then bd (f_X12_greater x2 (h2.1 55 0 x3.toNatClampNeg) h2) (fun y3 h4 => rc x1 y3 (x3 + (1 : Int32)) h4) else none)) else none)))) else none))
def l_X12_greatestPart_4 : Nat → Int32 → Int32 → Int32 → AH → Option (Int32 × AH)
  | 0 => fun _ _ _ _ => none
  | F + 1 => b_X12_greatestPart_4 (l_X12_greatestPart_4 F)
def c_X12_greatestPart_35  (x2 : Int32) (h : AH) : Option (Int32 × AH) :=
  some (x2, h)
def f_X12_greatestPart (x1 : Int32) (h : AH) : Option (Int32 × AH) :=
  bd (l_X12_greatestPart_4 FU x1 (0 : Int32) (0 : Int32) h) (fun v h => c_X12_greatestPart_35 v h)
def b_X12_layFar_2 (rc : Int32 → AH → Option (Unit × AH)) (x1 : Int32) (h : AH) : Option (Unit × AH) :=
  (if (h.1 34 0 10) ≤ x1 then some ((), h) else (if inb x1 10 = true then (if (h.1 41 0 x1.toNatClampNeg) = (1 : Int32) then bd (f_X12_standNow  h) (fun y1 h2 => bd (f_X12_has y1 x1 h2) (fun y3 h4 => (if y3 = 0 then (if inb x1 10 = true then rc (x1 + (1 : Int32)) (hsI h4 56 0 x1.toNatClampNeg (-9 : Int32)) else none) else (if inb x1 10 = true then rc (x1 + (1 : Int32)) (hsI h4 56 0 x1.toNatClampNeg (0 : Int32)) else none)))) else (if inb x1 10 = true then rc (x1 + (1 : Int32)) (hsI h 56 0 x1.toNatClampNeg (-9 : Int32)) else none)) else none))
def l_X12_layFar_2 : Nat → Int32 → AH → Option (Unit × AH)
  | 0 => fun _ _ => none
  | F + 1 => b_X12_layFar_2 (l_X12_layFar_2 F)
def b_X12_layFar_36 (rc : Int32 → Int32 → AH → Option (Unit × AH)) (x1 : Int32) (x2 : Int32) (h : AH) : Option (Unit × AH) :=
  (if (h.1 34 0 11) ≤ x2 then some ((), h) else (if inb x2 14 = true then (if inb (h.1 42 0 x2.toNatClampNeg) 10 = true then (if (h.1 56 0 (h.1 42 0 x2.toNatClampNeg).toNatClampNeg) = (-9 : Int32) then bd (f_X12_isUsable x2 h) (fun y1 h2 => (if y1 = 0 then (if inb (h.1 42 0 x2.toNatClampNeg) 10 = true then (if inb (h.1 42 0 x2.toNatClampNeg) 10 = true then rc x1 (x2 + (1 : Int32)) (hsI h2 56 0 (h.1 42 0 x2.toNatClampNeg).toNatClampNeg (h2.1 56 0 (h.1 42 0 x2.toNatClampNeg).toNatClampNeg)) else none) else none) else bd (f_X12_greatestPart x2 h2) (fun y3 h4 => (if y3 = (-9 : Int32) then (if inb (h.1 42 0 x2.toNatClampNeg) 10 = true then (if inb (h.1 42 0 x2.toNatClampNeg) 10 = true then rc x1 (x2 + (1 : Int32)) (hsI h4 56 0 (h.1 42 0 x2.toNatClampNeg).toNatClampNeg (h4.1 56 0 (h.1 42 0 x2.toNatClampNeg).toNatClampNeg)) else none) else none) else (if inb (h.1 42 0 x2.toNatClampNeg) 10 = true then rc x1 (x2 + (1 : Int32)) (hsI h4 56 0 (h.1 42 0 x2.toNatClampNeg).toNatClampNeg x1) else none))))) else (if inb (h.1 42 0 x2.toNatClampNeg) 10 = true then (if inb (h.1 42 0 x2.toNatClampNeg) 10 = true then rc x1 (x2 + (1 : Int32)) (hsI h 56 0 (h.1 42 0 x2.toNatClampNeg).toNatClampNeg (h.1 56 0 (h.1 42 0 x2.toNatClampNeg).toNatClampNeg)) else none) else none)) else none) else none))
def l_X12_layFar_36 : Nat → Int32 → Int32 → AH → Option (Unit × AH)
  | 0 => fun _ _ _ => none
  | F + 1 => b_X12_layFar_36 (l_X12_layFar_36 F)
def c_X12_layFar_72 (rc : Int32 → AH → Option (Unit × AH)) (x1 : Int32) (h : AH) : Option (Unit × AH) :=
  rc (x1 + (1 : Int32)) h
def b_X12_layFar_28 (rc : Int32 → AH → Option (Unit × AH)) (x1 : Int32) (h : AH) : Option (Unit × AH) :=
  (if (h.1 34 0 10) < x1 then some ((), h) else bd (f_X12_takeThens  h) (fun _ h2 => bd (l_X12_layFar_36 FU x1 (0 : Int32) h2) (fun v h => c_X12_layFar_72 rc x1 h)))
def l_X12_layFar_28 : Nat → Int32 → AH → Option (Unit × AH)
  | 0 => fun _ _ => none
  | F + 1 => b_X12_layFar_28 (l_X12_layFar_28 F)
def c_X12_layFar_74   (h : AH) : Option (Unit × AH) :=
  bd (f_X12_takeThens  h) (fun _ h2 => some ((), h2))
def c_X12_layFar_26   (h : AH) : Option (Unit × AH) :=
  bd (l_X12_layFar_28 FU (1 : Int32) h) (fun v h => c_X12_layFar_74 h)
def f_X12_layFar  (h : AH) : Option (Unit × AH) :=
  bd (l_X12_layFar_2 FU (0 : Int32) h) (fun v h => c_X12_layFar_26 h)
def b_X12_soonest_23 (rc : Int32 → Int32 → Int32 → AH → Option (Int32 × AH)) (x1 : Int32) (x2 : Int32) (x3 : Int32) (h : AH) : Option (Int32 × AH) :=
  (if x3 < 0 then some (x2, h) else bd (f_X12_greatestPart x3 h) (fun y1 h2 => (if inb x3 14 = true then (if (h2.1 42 0 x3.toNatClampNeg) = x1 then bd (f_X12_isUsable x3 h2) (fun y3 h4 => (if y3 = 0 then rc x1 x2 (x3 + (-1 : Int32)) h4 else (if y1 = (-9 : Int32) then rc x1 x2 (x3 + (-1 : Int32)) h4 else (if inb x1 10 = true then (if (y1 + (1 : Int32)) = (h4.1 55 0 x1.toNatClampNeg) then rc x1 x3 (x3 + (-1 : Int32)) h4 else rc x1 x2 (x3 + (-1 : Int32)) h4) else none)))) else rc x1 x2 (x3 + (-1 : Int32)) h2) else none)))
def l_X12_soonest_23 : Nat → Int32 → Int32 → Int32 → AH → Option (Int32 × AH)
  | 0 => fun _ _ _ _ => none
  | F + 1 => b_X12_soonest_23 (l_X12_soonest_23 F)
def c_X12_soonest_56  (x1 : Int32) (x2 : Int32) (h : AH) : Option (Int32 × AH) :=
  (if inb x1 10 = true then bd (f_X12_tells x2 (h.1 55 0 x1.toNatClampNeg) h) (fun y1 h2 => some (y1, h2)) else none)
def f_X12_soonest (x1 : Int32) (h : AH) : Option (Int32 × AH) :=
  bd (f_X12_isClaim x1 h) (fun y1 h2 => (if y1 = 0 then some ((-1 : Int32), h2) else bd (f_X12_layFar  h2) (fun _ h4 => (if inb x1 10 = true then (if (h4.1 55 0 x1.toNatClampNeg) = (-9 : Int32) then some ((-9 : Int32), h4) else bd (l_X12_soonest_23 FU x1 (-9 : Int32) ((h4.1 34 0 11) - (1 : Int32)) h4) (fun v h => c_X12_soonest_56 x1 v h)) else none))))
def f_X11_steps (x1 : Int32) (h : AH) : Option (Int32 × AH) :=
  bd (f_X11_isClaim x1 h) (fun y1 h2 => (if y1 = 0 then some ((-1 : Int32), h2) else bd (f_X10_leastFrom x1 (1 : Int32) h2) (fun y3 h4 => some (y3, h4))))
def b_X12_sumParts_4 (rc : Int32 → Int32 → Int32 → AH → Option (Int32 × AH)) (x1 : Int32) (x2 : Int32) (x3 : Int32) (h : AH) : Option (Int32 × AH) :=
  (if (h.1 34 0 10) ≤ x3 then some (x2, h) else (if inb x1 14 = true then bd (f_X12_has (h.1 43 0 x1.toNatClampNeg) x3 h) (fun y1 h2 => (if y1 = 0 then rc x1 x2 (x3 + (1 : Int32)) h2 else (if x2 = (-9 : Int32) then rc x1 (-9 : Int32) (x3 + (1 : Int32)) h2 else (if inb x3 10 = true then (if (h2.1 55 0 x3.toNatClampNeg) = (-9 : Int32) then rc x1 (-9 : Int32) (x3 + (1 : Int32)) h2 else (if inb x3 10 = true then bd (f_X12_lesser (999 : Int32) (x2 + (h2.1 55 0 x3.toNatClampNeg)) h2) (fun y3 h4 => rc x1 y3 (x3 + (1 : Int32)) h4) else none)) else none)))) else none))
def l_X12_sumParts_4 : Nat → Int32 → Int32 → Int32 → AH → Option (Int32 × AH)
  | 0 => fun _ _ _ _ => none
  | F + 1 => b_X12_sumParts_4 (l_X12_sumParts_4 F)
def c_X12_sumParts_37  (x2 : Int32) (h : AH) : Option (Int32 × AH) :=
  some (x2, h)
def f_X12_sumParts (x1 : Int32) (h : AH) : Option (Int32 × AH) :=
  bd (l_X12_sumParts_4 FU x1 (1 : Int32) (0 : Int32) h) (fun v h => c_X12_sumParts_37 v h)
def b_X12_steps_8 (rc : Int32 → Int32 → AH → Option (Unit × AH)) (x1 : Int32) (x2 : Int32) (h : AH) : Option (Unit × AH) :=
  (if (h.1 34 0 10) ≤ x2 then some ((), h) else (if inb x2 10 = true then (if (h.1 41 0 x2.toNatClampNeg) = (1 : Int32) then bd (f_X12_standNow  h) (fun y1 h2 => bd (f_X12_has y1 x2 h2) (fun y3 h4 => (if y3 = 0 then (if inb x2 10 = true then rc x1 (x2 + (1 : Int32)) (hsI h4 56 0 x2.toNatClampNeg (-9 : Int32)) else none) else (if inb x2 10 = true then rc x1 (x2 + (1 : Int32)) (hsI h4 56 0 x2.toNatClampNeg (0 : Int32)) else none)))) else (if inb x2 10 = true then rc x1 (x2 + (1 : Int32)) (hsI h 56 0 x2.toNatClampNeg (-9 : Int32)) else none)) else none))
def l_X12_steps_8 : Nat → Int32 → Int32 → AH → Option (Unit × AH)
  | 0 => fun _ _ _ => none
  | F + 1 => b_X12_steps_8 (l_X12_steps_8 F)
def b_X12_steps_42 (rc : Int32 → Int32 → Int32 → AH → Option (Unit × AH)) (x1 : Int32) (x2 : Int32) (x3 : Int32) (h : AH) : Option (Unit × AH) :=
  (if (h.1 34 0 11) ≤ x3 then some ((), h) else bd (f_X12_isUsable x3 h) (fun y1 h2 => (if y1 = 0 then (if inb x3 14 = true then (if inb (h2.1 42 0 x3.toNatClampNeg) 10 = true then (if inb x3 14 = true then (if inb (h2.1 42 0 x3.toNatClampNeg) 10 = true then rc x1 x2 (x3 + (1 : Int32)) (hsI h2 56 0 (h2.1 42 0 x3.toNatClampNeg).toNatClampNeg (h2.1 56 0 (h2.1 42 0 x3.toNatClampNeg).toNatClampNeg)) else none) else none) else none) else none) else bd (f_X12_sumParts x3 h2) (fun y3 h4 => (if inb x3 14 = true then (if inb (h4.1 42 0 x3.toNatClampNeg) 10 = true then (if inb x3 14 = true then (if y3 = (-9 : Int32) then (if inb (h4.1 42 0 x3.toNatClampNeg) 10 = true then rc x1 x2 (x3 + (1 : Int32)) (hsI h4 56 0 (h4.1 42 0 x3.toNatClampNeg).toNatClampNeg (h4.1 56 0 (h4.1 42 0 x3.toNatClampNeg).toNatClampNeg)) else none) else (if (h4.1 56 0 (h4.1 42 0 x3.toNatClampNeg).toNatClampNeg) = (-9 : Int32) then (if inb (h4.1 42 0 x3.toNatClampNeg) 10 = true then rc x1 x2 (x3 + (1 : Int32)) (hsI h4 56 0 (h4.1 42 0 x3.toNatClampNeg).toNatClampNeg y3) else none) else bd (f_X12_lesser (h4.1 56 0 (h4.1 42 0 x3.toNatClampNeg).toNatClampNeg) y3 h4) (fun y5 h6 => (if inb (h4.1 42 0 x3.toNatClampNeg) 10 = true then rc x1 x2 (x3 + (1 : Int32)) (hsI h6 56 0 (h4.1 42 0 x3.toNatClampNeg).toNatClampNeg y5) else none)))) else none) else none) else none)))))
def l_X12_steps_42 : Nat → Int32 → Int32 → Int32 → AH → Option (Unit × AH)
  | 0 => fun _ _ _ _ => none
  | F + 1 => b_X12_steps_42 (l_X12_steps_42 F)
def c_X12_steps_86 (rc : Int32 → Int32 → AH → Option (Unit × AH)) (x1 : Int32) (x2 : Int32) (h : AH) : Option (Unit × AH) :=
  rc x1 (x2 + (1 : Int32)) h
def b_X12_steps_34 (rc : Int32 → Int32 → AH → Option (Unit × AH)) (x1 : Int32) (x2 : Int32) (h : AH) : Option (Unit × AH) :=
  (if (h.1 34 0 10) < x2 then some ((), h) else bd (f_X12_takeThens  h) (fun _ h2 => bd (l_X12_steps_42 FU x1 x2 (0 : Int32) h2) (fun v h => c_X12_steps_86 rc x1 x2 h)))
def l_X12_steps_34 : Nat → Int32 → Int32 → AH → Option (Unit × AH)
  | 0 => fun _ _ _ => none
  | F + 1 => b_X12_steps_34 (l_X12_steps_34 F)
def c_X12_steps_88  (x1 : Int32) (h : AH) : Option (Int32 × AH) :=
  (if inb x1 10 = true then some ((h.1 56 0 x1.toNatClampNeg), h) else none)
def c_X12_steps_32  (x1 : Int32) (h : AH) : Option (Int32 × AH) :=
  bd (l_X12_steps_34 FU x1 (0 : Int32) h) (fun v h => c_X12_steps_88 x1 h)
def f_X12_steps (x1 : Int32) (h : AH) : Option (Int32 × AH) :=
  bd (f_X12_isClaim x1 h) (fun y1 h2 => (if y1 = 0 then some ((-1 : Int32), h2) else bd (l_X12_steps_8 FU x1 (0 : Int32) h2) (fun v h => c_X12_steps_32 x1 h)))
def f_X11_sure (x1 : Int32) (h : AH) : Option (Int32 × AH) :=
  bd (f_X11_isClaim x1 h) (fun y1 h2 => (if y1 = 0 then some ((-1 : Int32), h2) else bd (f_X10_leastFrom x1 (2 : Int32) h2) (fun y3 h4 => (if y3 = (-9 : Int32) then some ((-9 : Int32), h4) else some (((9 : Int32) - y3), h4)))))
def b_X12_leastSure_7 (rc : Int32 → Int32 → Int32 → AH → Option (Int32 × AH)) (x1 : Int32) (x2 : Int32) (x3 : Int32) (h : AH) : Option (Int32 × AH) :=
  (if (h.1 34 0 10) ≤ x3 then some (x2, h) else (if inb x1 14 = true then bd (f_X12_has (h.1 43 0 x1.toNatClampNeg) x3 h) (fun y1 h2 => (if y1 = 0 then rc x1 x2 (x3 + (1 : Int32)) h2 else (if x2 = (-9 : Int32) then rc x1 (-9 : Int32) (x3 + (1 : Int32)) h2 else (if inb x3 10 = true then (if (h2.1 55 0 x3.toNatClampNeg) = (-9 : Int32) then rc x1 (-9 : Int32) (x3 + (1 : Int32)) h2 else (if inb x3 10 = true then bd (f_X12_lesser x2 (h2.1 55 0 x3.toNatClampNeg) h2) (fun y3 h4 => rc x1 y3 (x3 + (1 : Int32)) h4) else none)) else none)))) else none))
def l_X12_leastSure_7 : Nat → Int32 → Int32 → Int32 → AH → Option (Int32 × AH)
  | 0 => fun _ _ _ _ => none
  | F + 1 => b_X12_leastSure_7 (l_X12_leastSure_7 F)
def c_X12_leastSure_38  (x2 : Int32) (h : AH) : Option (Int32 × AH) :=
  some (x2, h)
def f_X12_leastSure (x1 : Int32) (h : AH) : Option (Int32 × AH) :=
  (if inb x1 14 = true then bd (l_X12_leastSure_7 FU x1 (h.1 44 0 x1.toNatClampNeg) (0 : Int32) h) (fun v h => c_X12_leastSure_38 v h) else none)
def b_X12_sure_8 (rc : Int32 → Int32 → AH → Option (Unit × AH)) (x1 : Int32) (x2 : Int32) (h : AH) : Option (Unit × AH) :=
  (if (h.1 34 0 10) ≤ x2 then some ((), h) else (if inb x2 10 = true then (if (h.1 41 0 x2.toNatClampNeg) = (1 : Int32) then bd (f_X12_standNow  h) (fun y1 h2 => bd (f_X12_has y1 x2 h2) (fun y3 h4 => (if y3 = 0 then (if inb x2 10 = true then rc x1 (x2 + (1 : Int32)) (hsI h4 56 0 x2.toNatClampNeg (-9 : Int32)) else none) else (if inb x2 10 = true then rc x1 (x2 + (1 : Int32)) (hsI h4 56 0 x2.toNatClampNeg (9 : Int32)) else none)))) else (if inb x2 10 = true then rc x1 (x2 + (1 : Int32)) (hsI h 56 0 x2.toNatClampNeg (-9 : Int32)) else none)) else none))
def l_X12_sure_8 : Nat → Int32 → Int32 → AH → Option (Unit × AH)
  | 0 => fun _ _ _ => none
  | F + 1 => b_X12_sure_8 (l_X12_sure_8 F)
def b_X12_sure_42 (rc : Int32 → Int32 → Int32 → AH → Option (Unit × AH)) (x1 : Int32) (x2 : Int32) (x3 : Int32) (h : AH) : Option (Unit × AH) :=
  (if (h.1 34 0 11) ≤ x3 then some ((), h) else bd (f_X12_isUsable x3 h) (fun y1 h2 => (if y1 = 0 then (if inb x3 14 = true then (if inb x3 14 = true then (if inb (h2.1 42 0 x3.toNatClampNeg) 10 = true then bd (f_X12_greater (h2.1 56 0 (h2.1 42 0 x3.toNatClampNeg).toNatClampNeg) (-9 : Int32) h2) (fun y3 h4 => (if inb (h2.1 42 0 x3.toNatClampNeg) 10 = true then rc x1 x2 (x3 + (1 : Int32)) (hsI h4 56 0 (h2.1 42 0 x3.toNatClampNeg).toNatClampNeg y3) else none)) else none) else none) else none) else bd (f_X12_leastSure x3 h2) (fun y5 h6 => (if inb x3 14 = true then (if inb x3 14 = true then (if inb (h6.1 42 0 x3.toNatClampNeg) 10 = true then bd (f_X12_greater (h6.1 56 0 (h6.1 42 0 x3.toNatClampNeg).toNatClampNeg) y5 h6) (fun y7 h8 => (if inb (h6.1 42 0 x3.toNatClampNeg) 10 = true then rc x1 x2 (x3 + (1 : Int32)) (hsI h8 56 0 (h6.1 42 0 x3.toNatClampNeg).toNatClampNeg y7) else none)) else none) else none) else none)))))
def l_X12_sure_42 : Nat → Int32 → Int32 → Int32 → AH → Option (Unit × AH)
  | 0 => fun _ _ _ _ => none
  | F + 1 => b_X12_sure_42 (l_X12_sure_42 F)
def c_X12_sure_74 (rc : Int32 → Int32 → AH → Option (Unit × AH)) (x1 : Int32) (x2 : Int32) (h : AH) : Option (Unit × AH) :=
  rc x1 (x2 + (1 : Int32)) h
def b_X12_sure_34 (rc : Int32 → Int32 → AH → Option (Unit × AH)) (x1 : Int32) (x2 : Int32) (h : AH) : Option (Unit × AH) :=
  (if (h.1 34 0 10) < x2 then some ((), h) else bd (f_X12_takeThens  h) (fun _ h2 => bd (l_X12_sure_42 FU x1 x2 (0 : Int32) h2) (fun v h => c_X12_sure_74 rc x1 x2 h)))
def l_X12_sure_34 : Nat → Int32 → Int32 → AH → Option (Unit × AH)
  | 0 => fun _ _ _ => none
  | F + 1 => b_X12_sure_34 (l_X12_sure_34 F)
def c_X12_sure_76  (x1 : Int32) (h : AH) : Option (Int32 × AH) :=
  (if inb x1 10 = true then some ((h.1 56 0 x1.toNatClampNeg), h) else none)
def c_X12_sure_32  (x1 : Int32) (h : AH) : Option (Int32 × AH) :=
  bd (l_X12_sure_34 FU x1 (0 : Int32) h) (fun v h => c_X12_sure_76 x1 h)
def f_X12_sure (x1 : Int32) (h : AH) : Option (Int32 × AH) :=
  bd (f_X12_isClaim x1 h) (fun y1 h2 => (if y1 = 0 then some ((-1 : Int32), h2) else bd (l_X12_sure_8 FU x1 (0 : Int32) h2) (fun v h => c_X12_sure_32 x1 h)))
def b_X0_nextOf_4 (rc : Int32 → Int32 → Int32 → AH → Option (Int32 × AH)) (x1 : Int32) (x2 : Int32) (x3 : Int32) (h : AH) : Option (Int32 × AH) :=
  (if (h.1 12 0 6) ≤ x3 then some (x2, h) else (if inb x3 14 = true then (if (h.1 15 0 x3.toNatClampNeg) = x1 then bd (f_X0_isUsable x3 h) (fun y1 h2 => (if y1 = 0 then rc x1 (x2 ||| (0 : Int32)) (x3 + (1 : Int32)) h2 else (if inb x3 14 = true then rc x1 (x2 ||| (h2.1 16 0 x3.toNatClampNeg)) (x3 + (1 : Int32)) h2 else none))) else rc x1 (x2 ||| (0 : Int32)) (x3 + (1 : Int32)) h) else none))
def l_X0_nextOf_4 : Nat → Int32 → Int32 → Int32 → AH → Option (Int32 × AH)
  | 0 => fun _ _ _ _ => none
  | F + 1 => b_X0_nextOf_4 (l_X0_nextOf_4 F)
def c_X0_nextOf_32  (x2 : Int32) (h : AH) : Option (Int32 × AH) :=
  some (x2, h)
def f_X0_nextOf (x1 : Int32) (h : AH) : Option (Int32 × AH) :=
  bd (l_X0_nextOf_4 FU x1 (0 : Int32) (0 : Int32) h) (fun v h => c_X0_nextOf_32 v h)
def b_X0_reachOf_17 (rc : Int32 → Int32 → Int32 → Int32 → AH → Option (Int32 × AH)) (x2 : Int32) (x4 : Int32) (x5 : Int32) (x6 : Int32) (h : AH) : Option (Int32 × AH) :=
  (if (h.1 12 0 6) ≤ x6 then some (x2, h) else (if inb x6 14 = true then bd (f_X11_has x2 (h.1 15 0 x6.toNatClampNeg) h) (fun y1 h2 => (if y1 = 0 then rc (x2 ||| (0 : Int32)) x4 x5 (x6 + (1 : Int32)) h2 else bd (f_X0_isUsable x6 h2) (fun y3 h4 => (if y3 = 0 then rc (x2 ||| (0 : Int32)) x4 x5 (x6 + (1 : Int32)) h4 else (if inb x6 14 = true then rc (x2 ||| (h4.1 16 0 x6.toNatClampNeg)) x4 x5 (x6 + (1 : Int32)) h4 else none))))) else none))
def l_X0_reachOf_17 : Nat → Int32 → Int32 → Int32 → Int32 → AH → Option (Int32 × AH)
  | 0 => fun _ _ _ _ _ => none
  | F + 1 => b_X0_reachOf_17 (l_X0_reachOf_17 F)
def c_X0_reachOf_46 (rc : Int32 → Int32 → Int32 → AH → Option (Int32 × AH)) (x2 : Int32) (x4 : Int32) (x5 : Int32) (h : AH) : Option (Int32 × AH) :=
  (if x2 = x5 then rc x2 (0 : Int32) (x4 + (1 : Int32)) h else rc x2 (1 : Int32) (x4 + (1 : Int32)) h)
def b_X0_reachOf_8 (rc : Int32 → Int32 → Int32 → AH → Option (Int32 × AH)) (x2 : Int32) (x3 : Int32) (x4 : Int32) (h : AH) : Option (Int32 × AH) :=
  (if x3 = 0 then some (x2, h) else (if (10 : Int32) < x4 then some (x2, h) else bd (l_X0_reachOf_17 FU x2 x4 x2 (0 : Int32) h) (fun v h => c_X0_reachOf_46 rc v x4 x2 h)))
def l_X0_reachOf_8 : Nat → Int32 → Int32 → Int32 → AH → Option (Int32 × AH)
  | 0 => fun _ _ _ _ => none
  | F + 1 => b_X0_reachOf_8 (l_X0_reachOf_8 F)
def c_X0_reachOf_55  (x2 : Int32) (h : AH) : Option (Int32 × AH) :=
  some (x2, h)
def f_X0_reachOf (x1 : Int32) (h : AH) : Option (Int32 × AH) :=
  bd (l_X0_reachOf_8 FU ((1 : Int32) <<< (x1 &&& 31)) (1 : Int32) (0 : Int32) h) (fun v h => c_X0_reachOf_55 v h)
def b_X10_goFurther_35 (R : Int32 → Int32 → Int32 → AH → Option (Unit × AH)) (rc : Int32 → Int32 → Int32 → Int32 → AH → Option (Unit × AH)) (x1 : Int32) (x2 : Int32) (x3 : Int32) (x4 : Int32) (h : AH) : Option (Unit × AH) :=
  (if (h.1 12 0 5) ≤ x4 then some ((), h) else (if inb x1 10 = true then bd (f_X11_has ((h.1 22 0 x1.toNatClampNeg) &&& x3) x4 h) (fun y1 h2 => (if y1 = 0 then rc x1 x2 x3 (x4 + (1 : Int32)) h2 else bd (R x4 (x2 + (1 : Int32)) (x3 &&& (((1 : Int32) <<< (x4 &&& 31)) ^^^ (-1 : Int32))) h2) (fun _ h4 => rc x1 x2 x3 (x4 + (1 : Int32)) h4))) else none))
def l_X10_goFurther_35 (R : Int32 → Int32 → Int32 → AH → Option (Unit × AH)) : Nat → Int32 → Int32 → Int32 → Int32 → AH → Option (Unit × AH)
  | 0 => fun _ _ _ _ _ => none
  | F + 1 => b_X10_goFurther_35 R (l_X10_goFurther_35 R F)
def c_X10_goFurther_64 (R : Int32 → Int32 → Int32 → AH → Option (Unit × AH))  (h : AH) : Option (Unit × AH) :=
  some ((), h)
def g_X10_goFurther (R : Int32 → Int32 → Int32 → AH → Option (Unit × AH)) (x1 : Int32) (x2 : Int32) (x3 : Int32) (h : AH) : Option (Unit × AH) :=
  (if (10 : Int32) ≤ x2 then some ((), h) else bd (f_J6_bitCount_0f7a4 x3 h) (fun y1 h2 => (if (h2.1 19 0 7) < (x2 + y1) then (if inb x2 10 = true then (if x2 ≤ ((hsI h2 23 0 x2.toNatClampNeg x1).1 19 0 7) then bd (l_X10_goFurther_35 R FU x1 x2 x3 (0 : Int32) (hsI h2 23 0 x2.toNatClampNeg x1)) (fun v h => c_X10_goFurther_64 R h) else (if (¬ (0 : Int32) < 0 ∧ ¬ (0 : Int32) < 0 ∧ ¬ (x2 + (1 : Int32)) < 0) ∧ (0 : Int32).toNatClampNeg + (x2 + (1 : Int32)).toNatClampNeg ≤ 10 ∧ (0 : Int32).toNatClampNeg + (x2 + (1 : Int32)).toNatClampNeg ≤ 10 then bd (l_X10_goFurther_35 R FU x1 x2 x3 (0 : Int32) (hcp (hsI (hsI h2 23 0 x2.toNatClampNeg x1) 19 0 7 x2) 23 0 20 0 (0 : Int32).toNatClampNeg (0 : Int32).toNatClampNeg (x2 + (1 : Int32)).toNatClampNeg)) (fun v h => c_X10_goFurther_64 R h) else none)) else none) else some ((), h2))))
def f_X10_goFurther : Nat → Int32 → Int32 → Int32 → AH → Option (Unit × AH)
  | 0 => fun _ _ _ _ => none
  | D + 1 => g_X10_goFurther (f_X10_goFurther D)
def b_X10_longestFrom_2 (rc : Int32 → Int32 → AH → Option (Unit × AH)) (x1 : Int32) (x2 : Int32) (h : AH) : Option (Unit × AH) :=
  (if (h.1 12 0 5) ≤ x2 then some ((), h) else bd (f_X0_nextOf x2 h) (fun y1 h2 => (if inb x2 10 = true then rc x1 (x2 + (1 : Int32)) (hsI h2 22 0 x2.toNatClampNeg y1) else none)))
def l_X10_longestFrom_2 : Nat → Int32 → Int32 → AH → Option (Unit × AH)
  | 0 => fun _ _ _ => none
  | F + 1 => b_X10_longestFrom_2 (l_X10_longestFrom_2 F)
def c_X10_longestFrom_17  (x1 : Int32) (h : AH) : Option (Int32 × AH) :=
  bd (f_X0_reachOf x1 (hsI h 19 0 7 (-1 : Int32))) (fun y1 h2 => bd (f_X10_goFurther 12 x1 (0 : Int32) (y1 &&& (((1 : Int32) <<< (x1 &&& 31)) ^^^ (-1 : Int32))) h2) (fun _ h4 => some ((h4.1 19 0 7), h4)))
def f_X10_longestFrom (x1 : Int32) (h : AH) : Option (Int32 × AH) :=
  bd (l_X10_longestFrom_2 FU x1 (0 : Int32) h) (fun v h => c_X10_longestFrom_17 x1 h)
def b_X5_take_longTrail_5 (rc : Nat → Int32 → Int32 → AH → Option (Unit × AH)) (r0 : Nat) (x2 : Int32) (x3 : Int32) (h : AH) : Option (Unit × AH) :=
  (if x2 ≤ x3 then some ((), h) else (if (40 : Int32) ≤ x3 then some ((), h) else (if (nI 10) ≤ x3 then some ((), h) else (if inb x3 10 = true then (if inb x3 40 = true then rc r0 x2 (x3 + (1 : Int32)) (hsI h 3 r0 x3.toNatClampNeg (h.1 20 0 x3.toNatClampNeg)) else none) else none))))
def l_X5_take_longTrail_5 : Nat → Nat → Int32 → Int32 → AH → Option (Unit × AH)
  | 0 => fun _ _ _ _ => none
  | F + 1 => b_X5_take_longTrail_5 (l_X5_take_longTrail_5 F)
def c_X5_take_longTrail_24   (h : AH) : Option (Unit × AH) :=
  some ((), h)
def f_X5_take_longTrail (r0 : Nat) (x2 : Int32) (h : AH) : Option (Unit × AH) :=
  bd (f_X5_renew r0 x2 h) (fun _ h2 => bd (l_X5_take_longTrail_5 FU r0 x2 (0 : Int32) h2) (fun v h => c_X5_take_longTrail_24 h))
def f_X11_longest (x1 : Int32) (x2 : Int32) (h : AH) : Option (Int32 × AH) :=
  bd (f_X11_isClaim x1 h) (fun y1 h2 => (if y1 = 0 then some ((-1 : Int32), h2) else bd (f_X11_isRow x2 h2) (fun y3 h4 => (if y3 = 0 then some ((-1 : Int32), h4) else bd (f_X10_longestFrom x1 h4) (fun y5 h6 => (if inb x2 6 = true then bd (f_X5_take_longTrail (x2.toNatClampNeg) (y5 + (1 : Int32)) h6) (fun _ h8 => some (y5, h8)) else none))))))
def b_X12_nextSet_4 (rc : Int32 → Int32 → Int32 → AH → Option (Int32 × AH)) (x1 : Int32) (x2 : Int32) (x3 : Int32) (h : AH) : Option (Int32 × AH) :=
  (if (h.1 34 0 11) ≤ x3 then some (x2, h) else (if inb x3 14 = true then (if (h.1 42 0 x3.toNatClampNeg) = x1 then bd (f_X12_isUsable x3 h) (fun y1 h2 => (if y1 = 0 then rc x1 (x2 ||| (0 : Int32)) (x3 + (1 : Int32)) h2 else (if inb x3 14 = true then rc x1 (x2 ||| (h2.1 43 0 x3.toNatClampNeg)) (x3 + (1 : Int32)) h2 else none))) else rc x1 (x2 ||| (0 : Int32)) (x3 + (1 : Int32)) h) else none))
def l_X12_nextSet_4 : Nat → Int32 → Int32 → Int32 → AH → Option (Int32 × AH)
  | 0 => fun _ _ _ _ => none
  | F + 1 => b_X12_nextSet_4 (l_X12_nextSet_4 F)
def c_X12_nextSet_29  (x2 : Int32) (h : AH) : Option (Int32 × AH) :=
  some (x2, h)
def f_X12_nextSet (x1 : Int32) (h : AH) : Option (Int32 × AH) :=
  bd (l_X12_nextSet_4 FU x1 (0 : Int32) (0 : Int32) h) (fun v h => c_X12_nextSet_29 v h)
def b_X12_layLongest_33 (R : Int32 → Int32 → AH → Option (Unit × AH)) (rc : Int32 → Int32 → Int32 → Int32 → AH → Option (Unit × AH)) (x1 : Int32) (x2 : Int32) (x3 : Int32) (x4 : Int32) (h : AH) : Option (Unit × AH) :=
  (if (h.1 34 0 10) ≤ x4 then some ((), h) else bd (f_X12_has x3 x4 h) (fun y1 h2 => (if y1 = 0 then rc x1 x2 x3 (x4 + (1 : Int32)) h2 else bd (f_X12_has x2 x4 h2) (fun y3 h4 => (if y3 = 0 then (if inb x1 32 = true then bd (R (x1 + (1 : Int32)) (x2 ||| ((1 : Int32) <<< (x4 &&& 31))) (hsI h4 57 0 x1.toNatClampNeg x4)) (fun _ h6 => rc x1 x2 x3 (x4 + (1 : Int32)) h6) else none) else rc x1 x2 x3 (x4 + (1 : Int32)) h4)))))
def l_X12_layLongest_33 (R : Int32 → Int32 → AH → Option (Unit × AH)) : Nat → Int32 → Int32 → Int32 → Int32 → AH → Option (Unit × AH)
  | 0 => fun _ _ _ _ _ => none
  | F + 1 => b_X12_layLongest_33 R (l_X12_layLongest_33 R F)
def c_X12_layLongest_62 (R : Int32 → Int32 → AH → Option (Unit × AH))  (h : AH) : Option (Unit × AH) :=
  some ((), h)
def b_X12_layLongest_9 (R : Int32 → Int32 → AH → Option (Unit × AH)) (rc : Int32 → Int32 → Int32 → AH → Option (Unit × AH)) (x1 : Int32) (x2 : Int32) (x3 : Int32) (h : AH) : Option (Unit × AH) :=
  (if x1 ≤ x3 then some ((), h) else (if inb x3 32 = true then (if inb x3 10 = true then rc x1 x2 (x3 + (1 : Int32)) (hsI h 58 0 x3.toNatClampNeg (h.1 57 0 x3.toNatClampNeg)) else none) else none))
def l_X12_layLongest_9 (R : Int32 → Int32 → AH → Option (Unit × AH)) : Nat → Int32 → Int32 → Int32 → AH → Option (Unit × AH)
  | 0 => fun _ _ _ _ => none
  | F + 1 => b_X12_layLongest_9 R (l_X12_layLongest_9 R F)
def c_X12_layLongest_22 (R : Int32 → Int32 → AH → Option (Unit × AH)) (x1 : Int32) (x2 : Int32) (h : AH) : Option (Unit × AH) :=
  (if inb (x1 - (1 : Int32)) 32 = true then bd (f_X12_nextSet (h.1 57 0 (x1 - (1 : Int32)).toNatClampNeg) h) (fun y1 h2 => bd (l_X12_layLongest_33 R FU x1 x2 y1 (0 : Int32) h2) (fun v h => c_X12_layLongest_62 R h)) else none)
def g_X12_layLongest (R : Int32 → Int32 → AH → Option (Unit × AH)) (x1 : Int32) (x2 : Int32) (h : AH) : Option (Unit × AH) :=
  (if x1 ≤ (h.1 34 0 38) then (if inb (x1 - (1 : Int32)) 32 = true then bd (f_X12_nextSet (h.1 57 0 (x1 - (1 : Int32)).toNatClampNeg) h) (fun y1 h2 => bd (l_X12_layLongest_33 R FU x1 x2 y1 (0 : Int32) h2) (fun v h => c_X12_layLongest_62 R h)) else none) else bd (l_X12_layLongest_9 R FU x1 x2 (0 : Int32) (hsI h 34 0 38 x1)) (fun v h => c_X12_layLongest_22 R x1 x2 h))
def f_X12_layLongest : Nat → Int32 → Int32 → AH → Option (Unit × AH)
  | 0 => fun _ _ _ => none
  | D + 1 => g_X12_layLongest (f_X12_layLongest D)
def b_X12_layRow_m_bestTried_7 (rc : Int32 → Int32 → Int32 → AH → Option (Unit × AH)) (x1 : Int32) (x3 : Int32) (x4 : Int32) (h : AH) : Option (Unit × AH) :=
  (if (40 : Int32) ≤ x4 then some ((), h) else (if x3 ≤ x4 then (if inb (((40 : Int32) * x1) + x4) 240 = true then rc x1 x3 (x4 + (1 : Int32)) (hsI h 37 0 (((40 : Int32) * x1) + x4).toNatClampNeg (0 : Int32)) else none) else (if inb x4 10 = true then (if inb (((40 : Int32) * x1) + x4) 240 = true then rc x1 x3 (x4 + (1 : Int32)) (hsI h 37 0 (((40 : Int32) * x1) + x4).toNatClampNeg (h.1 58 0 x4.toNatClampNeg)) else none) else none)))
def l_X12_layRow_m_bestTried_7 : Nat → Int32 → Int32 → Int32 → AH → Option (Unit × AH)
  | 0 => fun _ _ _ _ => none
  | F + 1 => b_X12_layRow_m_bestTried_7 (l_X12_layRow_m_bestTried_7 F)
def c_X12_layRow_m_bestTried_28   (h : AH) : Option (Unit × AH) :=
  some ((), h)
def f_X12_layRow_m_bestTried (x1 : Int32) (x3 : Int32) (h : AH) : Option (Unit × AH) :=
  (if inb x1 6 = true then bd (l_X12_layRow_m_bestTried_7 FU x1 x3 (0 : Int32) (hsI h 36 0 x1.toNatClampNeg x3)) (fun v h => c_X12_layRow_m_bestTried_28 h) else none)
def f_X12_longest (x1 : Int32) (x2 : Int32) (h : AH) : Option (Int32 × AH) :=
  bd (f_X12_isClaim x1 h) (fun y1 h2 => (if y1 = 0 then some ((-1 : Int32), h2) else bd (f_X12_isRow x2 h2) (fun y3 h4 => (if y3 = 0 then some ((-1 : Int32), h4) else bd (f_X12_layLongest 12 (1 : Int32) ((1 : Int32) <<< (x1 &&& 31)) (hsI (hsI h4 34 0 38 (0 : Int32)) 57 0 (0 : Int32).toNatClampNeg x1)) (fun _ h6 => bd (f_X12_layRow_m_bestTried x2 (h6.1 34 0 38) h6) (fun _ h8 => some (((h8.1 34 0 38) - (1 : Int32)), h8)))))))
def b_X1_forcedInto_13 (rc : Int32 → Int32 → Int32 → AH → Option (Int32 × AH)) (x1 : Int32) (x2 : Int32) (x3 : Int32) (h : AH) : Option (Int32 × AH) :=
  (if (h.1 12 0 6) ≤ x3 then some (x2, h) else bd (f_X0_isUsable x3 h) (fun y1 h2 => (if y1 = 0 then rc x1 (x2 &&& (-1 : Int32)) (x3 + (1 : Int32)) h2 else (if inb x3 14 = true then (if ((h2.1 16 0 x3.toNatClampNeg) &&& x1) = 0 then (if inb x3 14 = true then rc x1 (x2 &&& (((1 : Int32) <<< ((h2.1 15 0 x3.toNatClampNeg) &&& 31)) ^^^ (-1 : Int32))) (x3 + (1 : Int32)) h2 else none) else rc x1 (x2 &&& (-1 : Int32)) (x3 + (1 : Int32)) h2) else none))))
def l_X1_forcedInto_13 : Nat → Int32 → Int32 → Int32 → AH → Option (Int32 × AH)
  | 0 => fun _ _ _ _ => none
  | F + 1 => b_X1_forcedInto_13 (l_X1_forcedInto_13 F)
def c_X1_forcedInto_53  (x2 : Int32) (h : AH) : Option (Int32 × AH) :=
  some (x2, h)
def f_X1_forcedInto (x1 : Int32) (h : AH) : Option (Int32 × AH) :=
  bd (f_X6_allBits 0 h) (fun y1 h2 => bd (f_X6_bitsOf 0 (1 : Int32) h2) (fun y3 h4 => bd (l_X1_forcedInto_13 FU x1 (y1 &&& (y3 ^^^ (-1 : Int32))) (0 : Int32) h4) (fun v h => c_X1_forcedInto_53 v h)))
def b_X1_losingBits_6 (rc : Int32 → Int32 → AH → Option (Unit × AH)) (x1 : Int32) (x2 : Int32) (h : AH) : Option (Unit × AH) :=
  (if (h.1 12 0 5) ≤ x2 then some ((), h) else bd (f_X11_has x1 x2 h) (fun y1 h2 => (if y1 = 0 then (if inb x2 10 = true then rc x1 (x2 + (1 : Int32)) (hsI h2 25 0 x2.toNatClampNeg (-9 : Int32)) else none) else (if inb x2 10 = true then rc x1 (x2 + (1 : Int32)) (hsI h2 25 0 x2.toNatClampNeg (0 : Int32)) else none))))
def l_X1_losingBits_6 : Nat → Int32 → Int32 → AH → Option (Unit × AH)
  | 0 => fun _ _ _ => none
  | F + 1 => b_X1_losingBits_6 (l_X1_losingBits_6 F)
def b_X1_losingBits_43 (rc : Int32 → Int32 → Int32 → Int32 → AH → Option (Unit × AH)) (x1 : Int32) (x3 : Int32) (x4 : Int32) (x5 : Int32) (h : AH) : Option (Unit × AH) :=
  (if (h.1 12 0 5) ≤ x5 then some ((), h) else bd (f_X11_has x4 x5 h) (fun y1 h2 => (if y1 = 0 then (if inb x5 10 = true then (if inb x5 10 = true then rc x1 x3 x4 (x5 + (1 : Int32)) (hsI h2 25 0 x5.toNatClampNeg (h2.1 25 0 x5.toNatClampNeg)) else none) else none) else (if inb x5 10 = true then rc x1 x3 x4 (x5 + (1 : Int32)) (hsI h2 25 0 x5.toNatClampNeg x3) else none))))
def l_X1_losingBits_43 : Nat → Int32 → Int32 → Int32 → Int32 → AH → Option (Unit × AH)
  | 0 => fun _ _ _ _ _ => none
  | F + 1 => b_X1_losingBits_43 (l_X1_losingBits_43 F)
def c_X1_losingBits_64 (rc : Int32 → Int32 → Int32 → AH → Option (Int32 × AH)) (x1 : Int32) (x3 : Int32) (x4 : Int32) (h : AH) : Option (Int32 × AH) :=
  (if x4 = 0 then rc (x1 ||| x4) (0 : Int32) (x3 + (1 : Int32)) h else rc (x1 ||| x4) (1 : Int32) (x3 + (1 : Int32)) h)
def b_X1_losingBits_28 (rc : Int32 → Int32 → Int32 → AH → Option (Int32 × AH)) (x1 : Int32) (x2 : Int32) (x3 : Int32) (h : AH) : Option (Int32 × AH) :=
  (if x2 = 0 then some (x1, h) else (if (10 : Int32) < x3 then some (x1, h) else bd (f_X1_forcedInto x1 h) (fun y1 h2 => bd (l_X1_losingBits_43 FU x1 x3 (y1 &&& (x1 ^^^ (-1 : Int32))) (0 : Int32) h2) (fun v h => c_X1_losingBits_64 rc x1 x3 (y1 &&& (x1 ^^^ (-1 : Int32))) h))))
def l_X1_losingBits_28 : Nat → Int32 → Int32 → Int32 → AH → Option (Int32 × AH)
  | 0 => fun _ _ _ _ => none
  | F + 1 => b_X1_losingBits_28 (l_X1_losingBits_28 F)
def c_X1_losingBits_76  (x1 : Int32) (h : AH) : Option (Int32 × AH) :=
  some (x1, h)
def c_X1_losingBits_24  (x1 : Int32) (h : AH) : Option (Int32 × AH) :=
  bd (l_X1_losingBits_28 FU x1 (1 : Int32) (1 : Int32) h) (fun v h => c_X1_losingBits_76 v h)
def f_X1_losingBits  (h : AH) : Option (Int32 × AH) :=
  bd (f_X0_lossBits  h) (fun y1 h2 => bd (l_X1_losingBits_6 FU y1 (0 : Int32) h2) (fun v h => c_X1_losingBits_24 y1 h))
def f_X11_lost  (h : AH) : Option (Int32 × AH) :=
  bd (f_X1_losingBits  h) (fun y1 h2 => some (y1, h2))
def b_X12_hasLost_4 (rc : Int32 → Int32 → Int32 → AH → Option (Int32 × AH)) (x1 : Int32) (x2 : Int32) (x3 : Int32) (h : AH) : Option (Int32 × AH) :=
  (if (h.1 34 0 10) ≤ x3 then some (x2, h) else (if x2 = 0 then (if inb x1 14 = true then bd (f_X12_has (h.1 43 0 x1.toNatClampNeg) x3 h) (fun y1 h2 => (if y1 = 0 then rc x1 (0 : Int32) (x3 + (1 : Int32)) h2 else (if inb x3 10 = true then (if (h2.1 55 0 x3.toNatClampNeg) = (-9 : Int32) then rc x1 (0 : Int32) (x3 + (1 : Int32)) h2 else rc x1 (1 : Int32) (x3 + (1 : Int32)) h2) else none))) else none) else rc x1 (1 : Int32) (x3 + (1 : Int32)) h))
def l_X12_hasLost_4 : Nat → Int32 → Int32 → Int32 → AH → Option (Int32 × AH)
  | 0 => fun _ _ _ _ => none
  | F + 1 => b_X12_hasLost_4 (l_X12_hasLost_4 F)
def c_X12_hasLost_29  (x2 : Int32) (h : AH) : Option (Int32 × AH) :=
  some (zn x2, h)
def f_X12_hasLost (x1 : Int32) (h : AH) : Option (Int32 × AH) :=
  bd (l_X12_hasLost_4 FU x1 (0 : Int32) (0 : Int32) h) (fun v h => c_X12_hasLost_29 v h)
def b_X12_areAllLost_4 (rc : Int32 → Int32 → Int32 → AH → Option (Int32 × AH)) (x1 : Int32) (x2 : Int32) (x3 : Int32) (h : AH) : Option (Int32 × AH) :=
  (if (h.1 34 0 11) ≤ x3 then some (x2, h) else (if x2 = 0 then rc x1 (0 : Int32) (x3 + (1 : Int32)) h else (if inb x3 14 = true then (if (h.1 42 0 x3.toNatClampNeg) = x1 then bd (f_X12_isUsable x3 h) (fun y1 h2 => (if y1 = 0 then rc x1 (1 : Int32) (x3 + (1 : Int32)) h2 else bd (f_X12_hasLost x3 h2) (fun y3 h4 => (if y3 = 0 then rc x1 (0 : Int32) (x3 + (1 : Int32)) h4 else rc x1 (1 : Int32) (x3 + (1 : Int32)) h4)))) else rc x1 (1 : Int32) (x3 + (1 : Int32)) h) else none)))
def l_X12_areAllLost_4 : Nat → Int32 → Int32 → Int32 → AH → Option (Int32 × AH)
  | 0 => fun _ _ _ _ => none
  | F + 1 => b_X12_areAllLost_4 (l_X12_areAllLost_4 F)
def c_X12_areAllLost_30  (x2 : Int32) (h : AH) : Option (Int32 × AH) :=
  some (zn x2, h)
def f_X12_areAllLost (x1 : Int32) (h : AH) : Option (Int32 × AH) :=
  bd (l_X12_areAllLost_4 FU x1 (1 : Int32) (0 : Int32) h) (fun v h => c_X12_areAllLost_30 v h)
def b_X12_layLoss_2 (rc : Int32 → AH → Option (Unit × AH)) (x1 : Int32) (h : AH) : Option (Unit × AH) :=
  (if (h.1 34 0 10) ≤ x1 then some ((), h) else bd (f_X12_isAtLoss x1 h) (fun y1 h2 => (if y1 = 0 then (if inb x1 10 = true then rc (x1 + (1 : Int32)) (hsI h2 56 0 x1.toNatClampNeg (-9 : Int32)) else none) else (if inb x1 10 = true then rc (x1 + (1 : Int32)) (hsI h2 56 0 x1.toNatClampNeg (0 : Int32)) else none))))
def l_X12_layLoss_2 : Nat → Int32 → AH → Option (Unit × AH)
  | 0 => fun _ _ => none
  | F + 1 => b_X12_layLoss_2 (l_X12_layLoss_2 F)
def b_X12_layLoss_29 (rc : Int32 → Int32 → AH → Option (Unit × AH)) (x1 : Int32) (x2 : Int32) (h : AH) : Option (Unit × AH) :=
  (if (h.1 34 0 10) ≤ x2 then some ((), h) else (if inb x2 10 = true then (if (h.1 56 0 x2.toNatClampNeg) = (-9 : Int32) then bd (f_X12_isEnd x2 h) (fun y1 h2 => (if y1 = 0 then bd (f_X12_areAllLost x2 h2) (fun y3 h4 => (if y3 = 0 then (if inb x2 10 = true then (if inb x2 10 = true then rc x1 (x2 + (1 : Int32)) (hsI h4 56 0 x2.toNatClampNeg (h4.1 56 0 x2.toNatClampNeg)) else none) else none) else (if inb x2 10 = true then rc x1 (x2 + (1 : Int32)) (hsI h4 56 0 x2.toNatClampNeg x1) else none))) else (if inb x2 10 = true then (if inb x2 10 = true then rc x1 (x2 + (1 : Int32)) (hsI h2 56 0 x2.toNatClampNeg (h2.1 56 0 x2.toNatClampNeg)) else none) else none))) else (if inb x2 10 = true then (if inb x2 10 = true then rc x1 (x2 + (1 : Int32)) (hsI h 56 0 x2.toNatClampNeg (h.1 56 0 x2.toNatClampNeg)) else none) else none)) else none))
def l_X12_layLoss_29 : Nat → Int32 → Int32 → AH → Option (Unit × AH)
  | 0 => fun _ _ _ => none
  | F + 1 => b_X12_layLoss_29 (l_X12_layLoss_29 F)
def c_X12_layLoss_59 (rc : Int32 → AH → Option (Unit × AH)) (x1 : Int32) (h : AH) : Option (Unit × AH) :=
  rc (x1 + (1 : Int32)) h
def b_X12_layLoss_21 (rc : Int32 → AH → Option (Unit × AH)) (x1 : Int32) (h : AH) : Option (Unit × AH) :=
  (if (h.1 34 0 10) < x1 then some ((), h) else bd (f_X12_takeThens  h) (fun _ h2 => bd (l_X12_layLoss_29 FU x1 (0 : Int32) h2) (fun v h => c_X12_layLoss_59 rc x1 h)))
def l_X12_layLoss_21 : Nat → Int32 → AH → Option (Unit × AH)
  | 0 => fun _ _ => none
  | F + 1 => b_X12_layLoss_21 (l_X12_layLoss_21 F)
def c_X12_layLoss_61   (h : AH) : Option (Unit × AH) :=
  bd (f_X12_takeThens  h) (fun _ h2 => some ((), h2))
def c_X12_layLoss_19   (h : AH) : Option (Unit × AH) :=
  bd (l_X12_layLoss_21 FU (1 : Int32) h) (fun v h => c_X12_layLoss_61 h)
def f_X12_layLoss  (h : AH) : Option (Unit × AH) :=
  bd (l_X12_layLoss_2 FU (0 : Int32) h) (fun v h => c_X12_layLoss_19 h)
def b_X12_lost_6 (rc : Int32 → Int32 → AH → Option (Int32 × AH)) (x1 : Int32) (x2 : Int32) (h : AH) : Option (Int32 × AH) :=
  (if (h.1 34 0 10) ≤ x2 then some (x1, h) else (if inb x2 10 = true then (if (h.1 55 0 x2.toNatClampNeg) = (-9 : Int32) then rc (x1 ||| (0 : Int32)) (x2 + (1 : Int32)) h else rc (x1 ||| ((1 : Int32) <<< (x2 &&& 31))) (x2 + (1 : Int32)) h) else none))
def l_X12_lost_6 : Nat → Int32 → Int32 → AH → Option (Int32 × AH)
  | 0 => fun _ _ _ => none
  | F + 1 => b_X12_lost_6 (l_X12_lost_6 F)
def c_X12_lost_26  (x1 : Int32) (h : AH) : Option (Int32 × AH) :=
  some (x1, h)
def f_X12_lost  (h : AH) : Option (Int32 × AH) :=
  bd (f_X12_layLoss  h) (fun _ h2 => bd (l_X12_lost_6 FU (0 : Int32) (0 : Int32) h2) (fun v h => c_X12_lost_26 v h))
def b_X1_safeReason_5 (rc : Int32 → Int32 → Int32 → AH → Option (Int32 × AH)) (x1 : Int32) (x2 : Int32) (x3 : Int32) (h : AH) : Option (Int32 × AH) :=
  (if (h.1 12 0 6) ≤ x3 then some ((-9 : Int32), h) else (if inb x3 14 = true then (if (h.1 15 0 x3.toNatClampNeg) = x1 then bd (f_X0_isUsable x3 h) (fun y1 h2 => (if y1 = 0 then rc x1 x2 (x3 + (1 : Int32)) h2 else (if inb x3 14 = true then (if ((h2.1 16 0 x3.toNatClampNeg) &&& x2) = 0 then some (x3, h2) else rc x1 x2 (x3 + (1 : Int32)) h2) else none))) else rc x1 x2 (x3 + (1 : Int32)) h) else none))
def l_X1_safeReason_5 : Nat → Int32 → Int32 → Int32 → AH → Option (Int32 × AH)
  | 0 => fun _ _ _ _ => none
  | F + 1 => b_X1_safeReason_5 (l_X1_safeReason_5 F)
def f_X1_safeReason (x1 : Int32) (h : AH) : Option (Int32 × AH) :=
  bd (f_X1_losingBits  h) (fun y1 h2 => l_X1_safeReason_5 FU x1 y1 (0 : Int32) h2)
def f_X11_never (x1 : Int32) (h : AH) : Option (Int32 × AH) :=
  bd (f_X11_isClaim x1 h) (fun y1 h2 => (if y1 = 0 then some ((-1 : Int32), h2) else bd (f_X1_safeReason x1 h2) (fun y3 h4 => some (y3, h4))))
def b_X12_never_15 (rc : Int32 → Int32 → Int32 → AH → Option (Int32 × AH)) (x1 : Int32) (x2 : Int32) (x3 : Int32) (h : AH) : Option (Int32 × AH) :=
  (if x3 < 0 then some (x2, h) else (if inb x3 14 = true then (if (h.1 42 0 x3.toNatClampNeg) = x1 then bd (f_X12_isUsable x3 h) (fun y1 h2 => (if y1 = 0 then rc x1 x2 (x3 + (-1 : Int32)) h2 else bd (f_X12_hasLost x3 h2) (fun y3 h4 => (if y3 = 0 then rc x1 x3 (x3 + (-1 : Int32)) h4 else rc x1 x2 (x3 + (-1 : Int32)) h4)))) else rc x1 x2 (x3 + (-1 : Int32)) h) else none))
def l_X12_never_15 : Nat → Int32 → Int32 → Int32 → AH → Option (Int32 × AH)
  | 0 => fun _ _ _ _ => none
  | F + 1 => b_X12_never_15 (l_X12_never_15 F)
def c_X12_never_37  (x2 : Int32) (h : AH) : Option (Int32 × AH) :=
  some (x2, h)
def f_X12_never (x1 : Int32) (h : AH) : Option (Int32 × AH) :=
  bd (f_X12_isClaim x1 h) (fun y1 h2 => (if y1 = 0 then some ((-1 : Int32), h2) else bd (f_X12_layLoss  h2) (fun _ h4 => bd (l_X12_never_15 FU x1 (-9 : Int32) ((h4.1 34 0 11) - (1 : Int32)) h4) (fun v h => c_X12_never_37 v h))))
def f_X1_answersToLoss (x1 : Int32) (h : AH) : Option (Int32 × AH) :=
  bd (f_X1_losingBits  h) (fun y1 h2 => (if inb x1 10 = true then some ((h2.1 25 0 x1.toNatClampNeg), h2) else none))
def f_X11_game (x1 : Int32) (h : AH) : Option (Int32 × AH) :=
  bd (f_X11_isClaim x1 h) (fun y1 h2 => (if y1 = 0 then some ((-1 : Int32), h2) else bd (f_X1_answersToLoss x1 h2) (fun y3 h4 => some (y3, h4))))
def f_X12_game (x1 : Int32) (h : AH) : Option (Int32 × AH) :=
  bd (f_X12_isClaim x1 h) (fun y1 h2 => (if y1 = 0 then some ((-1 : Int32), h2) else bd (f_X12_layLoss  h2) (fun _ h4 => (if inb x1 10 = true then some ((h4.1 55 0 x1.toNatClampNeg), h4) else none))))
def f_X3_nextSubset (x0 : Int32) (x1 : Int32) (h : AH) : Option (Int32 × AH) :=
  some (((x0 - x1) &&& x1), h)
def b_X3_wordsFor_28 (rc : Int32 → Int32 → Int32 → Int32 → Int32 → Int32 → AH → Option (Int32 × AH)) (x1 : Int32) (x2 : Int32) (x3 : Int32) (x4 : Int32) (x5 : Int32) (x6 : Int32) (h : AH) : Option (Int32 × AH) :=
  (if (1024 : Int32) ≤ x6 then some (x4, h) else bd (f_J6_bitCount_0f7a4 x5 h) (fun y1 h2 => bd (f_J6_bitCount_0f7a4 x4 h2) (fun y3 h4 => (if y3 ≤ y1 then (if x5 = x3 then some (x4, h4) else bd (f_X3_nextSubset x5 x3 h4) (fun y5 h6 => rc x1 x2 x3 x4 y5 (x6 + (1 : Int32)) h6)) else bd (f_X0_standingBy ((h4.1 8 3 3) ||| (x2 &&& (x5 ^^^ (-1 : Int32)))) (-1 : Int32) h4) (fun y7 h8 => bd (f_X11_has y7 x1 h8) (fun y9 h10 => (if y9 = 0 then (if x5 = x3 then some (x4, h10) else bd (f_X3_nextSubset x5 x3 h10) (fun y11 h12 => rc x1 x2 x3 x4 y11 (x6 + (1 : Int32)) h12)) else (if x5 = x3 then some (x5, h10) else bd (f_X3_nextSubset x5 x3 h10) (fun y13 h14 => rc x1 x2 x3 x5 y13 (x6 + (1 : Int32)) h14)))))))))
def l_X3_wordsFor_28 : Nat → Int32 → Int32 → Int32 → Int32 → Int32 → Int32 → AH → Option (Int32 × AH)
  | 0 => fun _ _ _ _ _ _ _ => none
  | F + 1 => b_X3_wordsFor_28 (l_X3_wordsFor_28 F)
def f_X3_wordsFor (x1 : Int32) (h : AH) : Option (Int32 × AH) :=
  bd (f_X6_bitsOf 0 (4 : Int32) h) (fun y1 h2 => bd (f_X0_reachOf x1 h2) (fun y3 h4 => bd (f_X0_standing  h4) (fun y5 h6 => l_X3_wordsFor_28 FU x1 (y1 &&& ((h2.1 8 3 4) ^^^ (-1 : Int32))) (((y1 &&& ((h2.1 8 3 4) ^^^ (-1 : Int32))) &&& y3) &&& y5) (((y1 &&& ((h2.1 8 3 4) ^^^ (-1 : Int32))) &&& y3) &&& y5) (0 : Int32) (0 : Int32) h6)))
def f_X11_words (x1 : Int32) (h : AH) : Option (Int32 × AH) :=
  bd (f_X11_isClaim x1 h) (fun y1 h2 => (if y1 = 0 then some ((-1 : Int32), h2) else bd (f_X0_standing  h2) (fun y3 h4 => bd (f_X11_has y3 x1 h4) (fun y5 h6 => (if y5 = 0 then some ((-9 : Int32), h6) else bd (f_X3_wordsFor x1 h6) (fun y7 h8 => bd (f_J6_bitCount_0f7a4 ((hsI h8 0 0 14 y7).1 0 0 14) (hsI h8 0 0 14 y7)) (fun y9 h10 => some (y9, h10))))))))
def b_X12_words_17 (rc : Int32 → Int32 → Int32 → AH → Option (Int32 × AH)) (x1 : Int32) (x2 : Int32) (x3 : Int32) (h : AH) : Option (Int32 × AH) :=
  (if (h.1 34 0 10) ≤ x3 then some (x2, h) else (if inb x3 10 = true then (if (h.1 41 0 x3.toNatClampNeg) = (4 : Int32) then bd (f_X12_has (h.1 34 0 17) x3 h) (fun y1 h2 => (if y1 = 0 then rc x1 (x2 ||| ((1 : Int32) <<< (x3 &&& 31))) (x3 + (1 : Int32)) h2 else rc x1 (x2 ||| (0 : Int32)) (x3 + (1 : Int32)) h2)) else rc x1 (x2 ||| (0 : Int32)) (x3 + (1 : Int32)) h) else none))
def l_X12_words_17 : Nat → Int32 → Int32 → Int32 → AH → Option (Int32 × AH)
  | 0 => fun _ _ _ _ => none
  | F + 1 => b_X12_words_17 (l_X12_words_17 F)
def b_X12_words_46 (rc : Int32 → Int32 → Int32 → Int32 → AH → Option (Int32 × AH)) (x1 : Int32) (x2 : Int32) (x3 : Int32) (x4 : Int32) (h : AH) : Option (Int32 × AH) :=
  (if x2 ≤ x4 then some (x3, h) else (if (x4 &&& (x2 ^^^ (-1 : Int32))) = 0 then bd (f_X12_bits x4 h) (fun y1 h2 => bd (f_X12_bits x3 h2) (fun y3 h4 => (if y3 ≤ y1 then rc x1 x2 x3 (x4 + (1 : Int32)) h4 else bd (f_X12_standWithout (x2 &&& (x4 ^^^ (-1 : Int32))) h4) (fun y5 h6 => bd (f_X12_has y5 x1 h6) (fun y7 h8 => (if y7 = 0 then rc x1 x2 x3 (x4 + (1 : Int32)) h8 else rc x1 x2 x4 (x4 + (1 : Int32)) h8)))))) else rc x1 x2 x3 (x4 + (1 : Int32)) h))
def l_X12_words_46 : Nat → Int32 → Int32 → Int32 → Int32 → AH → Option (Int32 × AH)
  | 0 => fun _ _ _ _ _ => none
  | F + 1 => b_X12_words_46 (l_X12_words_46 F)
def c_X12_words_82  (x3 : Int32) (h : AH) : Option (Int32 × AH) :=
  bd (f_X12_bits x3 h) (fun y1 h2 => bd (f_X12_tells x3 y1 h2) (fun y3 h4 => some (y3, h4)))
def c_X12_words_42  (x1 : Int32) (x2 : Int32) (h : AH) : Option (Int32 × AH) :=
  bd (l_X12_words_46 FU x1 x2 x2 (0 : Int32) h) (fun v h => c_X12_words_82 v h)
def f_X12_words (x1 : Int32) (h : AH) : Option (Int32 × AH) :=
  bd (f_X12_isClaim x1 h) (fun y1 h2 => (if y1 = 0 then some ((-1 : Int32), h2) else bd (f_X12_standNow  h2) (fun y3 h4 => bd (f_X12_has y3 x1 h4) (fun y5 h6 => (if y5 = 0 then some ((-9 : Int32), h6) else bd (l_X12_words_17 FU x1 (0 : Int32) (0 : Int32) h6) (fun v h => c_X12_words_42 x1 v h))))))
def b_X0_usableFor_4 (rc : Int32 → Int32 → Int32 → AH → Option (Int32 × AH)) (x1 : Int32) (x2 : Int32) (x3 : Int32) (h : AH) : Option (Int32 × AH) :=
  (if (h.1 12 0 6) ≤ x3 then some (x2, h) else (if inb x3 14 = true then (if (h.1 15 0 x3.toNatClampNeg) = x1 then bd (f_X0_isUsable x3 h) (fun y1 h2 => (if y1 = 0 then rc x1 (x2 ||| (0 : Int32)) (x3 + (1 : Int32)) h2 else rc x1 (x2 ||| ((1 : Int32) <<< (x3 &&& 31))) (x3 + (1 : Int32)) h2)) else rc x1 (x2 ||| (0 : Int32)) (x3 + (1 : Int32)) h) else none))
def l_X0_usableFor_4 : Nat → Int32 → Int32 → Int32 → AH → Option (Int32 × AH)
  | 0 => fun _ _ _ _ => none
  | F + 1 => b_X0_usableFor_4 (l_X0_usableFor_4 F)
def c_X0_usableFor_30  (x2 : Int32) (h : AH) : Option (Int32 × AH) :=
  some (x2, h)
def f_X0_usableFor (x1 : Int32) (h : AH) : Option (Int32 × AH) :=
  bd (l_X0_usableFor_4 FU x1 (0 : Int32) (0 : Int32) h) (fun v h => c_X0_usableFor_30 v h)
def b_X0_settledFrom_6 (rc : Int32 → Int32 → AH → Option (Int32 × AH)) (x2 : Int32) (x3 : Int32) (h : AH) : Option (Int32 × AH) :=
  (if (h.1 12 0 5) ≤ x3 then some (x2, h) else bd (f_X0_usableFor x3 h) (fun y1 h2 => bd (f_J6_bitCount_0f7a4 y1 h2) (fun y3 h4 => (if y3 ≤ (1 : Int32) then rc (x2 &&& (-1 : Int32)) (x3 + (1 : Int32)) h4 else rc (x2 &&& (((1 : Int32) <<< (x3 &&& 31)) ^^^ (-1 : Int32))) (x3 + (1 : Int32)) h4))))
def l_X0_settledFrom_6 : Nat → Int32 → Int32 → AH → Option (Int32 × AH)
  | 0 => fun _ _ _ => none
  | F + 1 => b_X0_settledFrom_6 (l_X0_settledFrom_6 F)
def c_X0_settledFrom_29  (x2 : Int32) (h : AH) : Option (Int32 × AH) :=
  some (x2, h)
def f_X0_settledFrom (x1 : Int32) (h : AH) : Option (Int32 × AH) :=
  bd (f_X0_reachOf x1 h) (fun y1 h2 => bd (l_X0_settledFrom_6 FU y1 (0 : Int32) h2) (fun v h => c_X0_settledFrom_29 v h))
def f_X11_agree (x1 : Int32) (h : AH) : Option (Int32 × AH) :=
  bd (f_X11_isClaim x1 h) (fun y1 h2 => (if y1 = 0 then some ((-1 : Int32), h2) else bd (f_X0_settledFrom x1 h2) (fun y3 h4 => some (y3, h4))))
def b_X12_comesTo_13 (rc : Int32 → Int32 → Int32 → AH → Option (Int32 × AH)) (x2 : Int32) (x3 : Int32) (x4 : Int32) (h : AH) : Option (Int32 × AH) :=
  (if (h.1 34 0 10) ≤ x4 then some (x2, h) else bd (f_X12_has x3 x4 h) (fun y1 h2 => (if y1 = 0 then rc (x2 ||| (0 : Int32)) x3 (x4 + (1 : Int32)) h2 else bd (f_X12_nextSet x4 h2) (fun y3 h4 => rc (x2 ||| y3) x3 (x4 + (1 : Int32)) h4))))
def l_X12_comesTo_13 : Nat → Int32 → Int32 → Int32 → AH → Option (Int32 × AH)
  | 0 => fun _ _ _ _ => none
  | F + 1 => b_X12_comesTo_13 (l_X12_comesTo_13 F)
def c_X12_comesTo_31 (rc : Int32 → Int32 → AH → Option (Int32 × AH)) (x2 : Int32) (x3 : Int32) (h : AH) : Option (Int32 × AH) :=
  rc x2 x3 h
def b_X12_comesTo_6 (rc : Int32 → Int32 → AH → Option (Int32 × AH)) (x2 : Int32) (x3 : Int32) (h : AH) : Option (Int32 × AH) :=
  (if x3 = x2 then some (x2, h) else bd (l_X12_comesTo_13 FU x2 x2 (0 : Int32) h) (fun v h => c_X12_comesTo_31 rc v x2 h))
def l_X12_comesTo_6 : Nat → Int32 → Int32 → AH → Option (Int32 × AH)
  | 0 => fun _ _ _ => none
  | F + 1 => b_X12_comesTo_6 (l_X12_comesTo_6 F)
def c_X12_comesTo_32  (x2 : Int32) (h : AH) : Option (Int32 × AH) :=
  some (x2, h)
def f_X12_comesTo (x1 : Int32) (h : AH) : Option (Int32 × AH) :=
  bd (l_X12_comesTo_6 FU ((1 : Int32) <<< (x1 &&& 31)) (0 : Int32) h) (fun v h => c_X12_comesTo_32 v h)
def b_X12_agree_14 (rc : Int32 → Int32 → Int32 → AH → Option (Int32 × AH)) (x2 : Int32) (x3 : Int32) (x4 : Int32) (h : AH) : Option (Int32 × AH) :=
  (if (h.1 34 0 10) ≤ x4 then some (x3, h) else bd (f_X12_has x2 x4 h) (fun y1 h2 => (if y1 = 0 then rc x2 (x3 ||| (0 : Int32)) (x4 + (1 : Int32)) h2 else bd (f_X12_usableFor x4 h2) (fun y3 h4 => bd (f_X12_bits y3 h4) (fun y5 h6 => (if (2 : Int32) ≤ y5 then rc x2 (x3 ||| (0 : Int32)) (x4 + (1 : Int32)) h6 else rc x2 (x3 ||| ((1 : Int32) <<< (x4 &&& 31))) (x4 + (1 : Int32)) h6))))))
def l_X12_agree_14 : Nat → Int32 → Int32 → Int32 → AH → Option (Int32 × AH)
  | 0 => fun _ _ _ _ => none
  | F + 1 => b_X12_agree_14 (l_X12_agree_14 F)
def c_X12_agree_38  (x3 : Int32) (h : AH) : Option (Int32 × AH) :=
  some (x3, h)
def f_X12_agree (x1 : Int32) (h : AH) : Option (Int32 × AH) :=
  bd (f_X12_isClaim x1 h) (fun y1 h2 => (if y1 = 0 then some ((-1 : Int32), h2) else bd (f_X12_comesTo x1 h2) (fun y3 h4 => bd (l_X12_agree_14 FU y3 (0 : Int32) (0 : Int32) h4) (fun v h => c_X12_agree_38 v h))))
def b_X0_thinnestFrom_17 (rc : Int32 → Int32 → Int32 → Int32 → AH → Option (Int32 × AH)) (x2 : Int32) (x3 : Int32) (x4 : Int32) (x5 : Int32) (h : AH) : Option (Int32 × AH) :=
  (if (h.1 12 0 5) ≤ x5 then some (x3, h) else bd (f_X0_usableFor x5 h) (fun y1 h2 => bd (f_J6_bitCount_0f7a4 y1 h2) (fun y3 h4 => bd (f_X11_has x2 x5 h4) (fun y5 h6 => (if y5 = 0 then rc x2 x3 x4 (x5 + (1 : Int32)) h6 else (if x4 ≤ y3 then rc x2 x3 x4 (x5 + (1 : Int32)) h6 else rc x2 x5 y3 (x5 + (1 : Int32)) h6))))))
def l_X0_thinnestFrom_17 : Nat → Int32 → Int32 → Int32 → Int32 → AH → Option (Int32 × AH)
  | 0 => fun _ _ _ _ _ => none
  | F + 1 => b_X0_thinnestFrom_17 (l_X0_thinnestFrom_17 F)
def c_X0_thinnestFrom_40  (x3 : Int32) (h : AH) : Option (Int32 × AH) :=
  some (x3, h)
def f_X0_thinnestFrom (x1 : Int32) (h : AH) : Option (Int32 × AH) :=
  bd (f_X0_reachOf x1 h) (fun y1 h2 => bd (f_X6_bitsOf 0 (1 : Int32) h2) (fun y3 h4 => bd (l_X0_thinnestFrom_17 FU (y1 &&& (y3 ^^^ (-1 : Int32))) (-9 : Int32) (1000000 : Int32) (0 : Int32) h4) (fun v h => c_X0_thinnestFrom_40 v h)))
def f_X11_thin (x1 : Int32) (h : AH) : Option (Int32 × AH) :=
  bd (f_X11_isClaim x1 h) (fun y1 h2 => (if y1 = 0 then some ((-1 : Int32), h2) else bd (f_X0_thinnestFrom x1 h2) (fun y3 h4 => (if y3 = (-9 : Int32) then some (y3, h4) else bd (f_X0_usableFor y3 h4) (fun y5 h6 => bd (f_J6_bitCount_0f7a4 y5 h6) (fun y7 h8 => some (y3, (hsI h8 0 0 14 y7))))))))
def b_X12_thin_17 (rc : Int32 → Int32 → Int32 → AH → Option (Int32 × AH)) (x2 : Int32) (x3 : Int32) (x4 : Int32) (h : AH) : Option (Int32 × AH) :=
  (if x4 < 0 then some (x3, h) else bd (f_X12_has x2 x4 h) (fun y1 h2 => (if y1 = 0 then rc x2 x3 (x4 + (-1 : Int32)) h2 else bd (f_X12_isEnd x4 h2) (fun y3 h4 => (if y3 = 0 then (if x3 = (-9 : Int32) then rc x2 x4 (x4 + (-1 : Int32)) h4 else bd (f_X12_usableFor x4 h4) (fun y5 h6 => bd (f_X12_bits y5 h6) (fun y7 h8 => bd (f_X12_usableFor x3 h8) (fun y9 h10 => bd (f_X12_bits y9 h10) (fun y11 h12 => (if y11 < y7 then rc x2 x3 (x4 + (-1 : Int32)) h12 else rc x2 x4 (x4 + (-1 : Int32)) h12)))))) else rc x2 x3 (x4 + (-1 : Int32)) h4)))))
def l_X12_thin_17 : Nat → Int32 → Int32 → Int32 → AH → Option (Int32 × AH)
  | 0 => fun _ _ _ _ => none
  | F + 1 => b_X12_thin_17 (l_X12_thin_17 F)
def c_X12_thin_51  (x3 : Int32) (h : AH) : Option (Int32 × AH) :=
  (if x3 = (-9 : Int32) then some ((-9 : Int32), h) else bd (f_X12_usableFor x3 h) (fun y1 h2 => bd (f_X12_bits y1 h2) (fun y3 h4 => bd (f_X12_tells y3 x3 h4) (fun y5 h6 => some (y5, h6)))))
def f_X12_thin (x1 : Int32) (h : AH) : Option (Int32 × AH) :=
  bd (f_X12_isClaim x1 h) (fun y1 h2 => (if y1 = 0 then some ((-1 : Int32), h2) else bd (f_X12_comesTo x1 h2) (fun y3 h4 => bd (l_X12_thin_17 FU y3 (-9 : Int32) ((h4.1 34 0 10) - (1 : Int32)) h4) (fun v h => c_X12_thin_51 v h))))
def f_X11_without (x1 : Int32) (h : AH) : Option (Int32 × AH) :=
  bd (f_X11_isClaim x1 h) (fun y1 h2 => (if y1 = 0 then some ((-1 : Int32), h2) else bd (f_X0_fallingWithout x1 h2) (fun y3 h4 => some (y3, h4))))
def f_X12_without (x1 : Int32) (h : AH) : Option (Int32 × AH) :=
  bd (f_X12_isClaim x1 h) (fun y1 h2 => (if y1 = 0 then some ((-1 : Int32), h2) else bd (f_X12_fallSet x1 h2) (fun y3 h4 => some (y3, h4))))
def b_X3_fellingOf_23 (rc : Int32 → Int32 → Int32 → Int32 → Int32 → Int32 → AH → Option (Int32 × AH)) (x1 : Int32) (x2 : Int32) (x3 : Int32) (x4 : Int32) (x5 : Int32) (x6 : Int32) (h : AH) : Option (Int32 × AH) :=
  (if (1024 : Int32) ≤ x6 then some (x3, h) else bd (f_J6_bitCount_0f7a4 x5 h) (fun y1 h2 => (if x4 ≤ y1 then (if x5 = x2 then some (x3, h2) else bd (f_X3_nextSubset x5 x2 h2) (fun y3 h4 => rc x1 x2 x3 x4 y3 (x6 + (1 : Int32)) h4)) else bd (f_X0_standingBy ((h2.1 8 3 3) ||| x5) (-1 : Int32) h2) (fun y5 h6 => bd (f_X11_has y5 x1 h6) (fun y7 h8 => (if y7 = 0 then bd (f_J6_bitCount_0f7a4 x5 h8) (fun y9 h10 => (if x5 = x2 then some (x5, h10) else bd (f_X3_nextSubset x5 x2 h10) (fun y11 h12 => rc x1 x2 x5 y9 y11 (x6 + (1 : Int32)) h12))) else (if x5 = x2 then some (x3, h8) else bd (f_X3_nextSubset x5 x2 h8) (fun y13 h14 => rc x1 x2 x3 x4 y13 (x6 + (1 : Int32)) h14))))))))
def l_X3_fellingOf_23 : Nat → Int32 → Int32 → Int32 → Int32 → Int32 → Int32 → AH → Option (Int32 × AH)
  | 0 => fun _ _ _ _ _ _ _ => none
  | F + 1 => b_X3_fellingOf_23 (l_X3_fellingOf_23 F)
def f_X3_fellingOf (x1 : Int32) (h : AH) : Option (Int32 × AH) :=
  bd (f_X0_reachOf x1 h) (fun y1 h2 => bd (f_X0_standing  h2) (fun y3 h4 => l_X3_fellingOf_23 FU x1 ((y1 &&& y3) &&& (((1 : Int32) <<< (x1 &&& 31)) ^^^ (-1 : Int32))) (0 : Int32) (4 : Int32) (0 : Int32) (0 : Int32) h4))
def f_X11_falls (x1 : Int32) (h : AH) : Option (Int32 × AH) :=
  bd (f_X11_isClaim x1 h) (fun y1 h2 => (if y1 = 0 then some ((-1 : Int32), h2) else bd (f_X0_standing  h2) (fun y3 h4 => bd (f_X11_has y3 x1 h4) (fun y5 h6 => (if y5 = 0 then some ((0 : Int32), (hsI h6 0 0 14 (0 : Int32))) else bd (f_X3_fellingOf x1 h6) (fun y7 h8 => (if y7 = 0 then some ((-9 : Int32), h8) else bd (f_J6_bitCount_0f7a4 y7 (hsI h8 0 0 14 y7)) (fun y9 h10 => some (y9, h10)))))))))
def b_X12_falls_20 (rc : Int32 → Int32 → Int32 → AH → Option (Int32 × AH)) (x1 : Int32) (x2 : Int32) (x3 : Int32) (h : AH) : Option (Int32 × AH) :=
  bd (f_X12_allClaims  h) (fun y1 h2 => (if y1 < x3 then some (x2, h2) else bd (f_X12_has x3 x1 h2) (fun y3 h4 => (if y3 = 0 then bd (f_X12_bits x3 h4) (fun y5 h6 => (if (4 : Int32) ≤ y5 then rc x1 x2 (x3 + (1 : Int32)) h6 else (if x2 = (-9 : Int32) then bd (f_X12_standWithout x3 h6) (fun y7 h8 => bd (f_X12_has y7 x1 h8) (fun y9 h10 => (if y9 = 0 then rc x1 x3 (x3 + (1 : Int32)) h10 else rc x1 x2 (x3 + (1 : Int32)) h10))) else bd (f_X12_bits x3 h6) (fun y11 h12 => bd (f_X12_bits x2 h12) (fun y13 h14 => (if y13 ≤ y11 then rc x1 x2 (x3 + (1 : Int32)) h14 else bd (f_X12_standWithout x3 h14) (fun y15 h16 => bd (f_X12_has y15 x1 h16) (fun y17 h18 => (if y17 = 0 then rc x1 x3 (x3 + (1 : Int32)) h18 else rc x1 x2 (x3 + (1 : Int32)) h18))))))))) else rc x1 x2 (x3 + (1 : Int32)) h4))))
def l_X12_falls_20 : Nat → Int32 → Int32 → Int32 → AH → Option (Int32 × AH)
  | 0 => fun _ _ _ _ => none
  | F + 1 => b_X12_falls_20 (l_X12_falls_20 F)
def c_X12_falls_58  (x2 : Int32) (h : AH) : Option (Int32 × AH) :=
  (if x2 = (-9 : Int32) then some ((-9 : Int32), h) else bd (f_X12_bits x2 h) (fun y1 h2 => bd (f_X12_tells x2 y1 h2) (fun y3 h4 => some (y3, h4))))
def f_X12_falls (x1 : Int32) (h : AH) : Option (Int32 × AH) :=
  bd (f_X12_isClaim x1 h) (fun y1 h2 => (if y1 = 0 then some ((-1 : Int32), h2) else bd (f_X12_standNow  h2) (fun y3 h4 => bd (f_X12_has y3 x1 h4) (fun y5 h6 => (if y5 = 0 then bd (f_X12_tells (0 : Int32) (0 : Int32) h6) (fun y7 h8 => some (y7, h8)) else bd (l_X12_falls_20 FU x1 (-9 : Int32) (0 : Int32) h6) (fun v h => c_X12_falls_58 v h))))))
def b_J7_fill_53178_enough_5 (rc : Int32 → Int32 → Int32 → AH → Option (Unit × AH)) (x1 : Int32) (x2 : Int32) (x3 : Int32) (h : AH) : Option (Unit × AH) :=
  (if x3 ≤ x2 then some ((), h) else (if inb x2 32 = true then rc x1 (x2 + (1 : Int32)) x3 (hsI h 27 0 x2.toNatClampNeg x1) else none))
def l_J7_fill_53178_enough_5 : Nat → Int32 → Int32 → Int32 → AH → Option (Unit × AH)
  | 0 => fun _ _ _ _ => none
  | F + 1 => b_J7_fill_53178_enough_5 (l_J7_fill_53178_enough_5 F)
def c_J7_fill_53178_enough_14   (h : AH) : Option (Unit × AH) :=
  some ((), h)
def f_J7_fill_53178_enough (x1 : Int32) (h : AH) : Option (Unit × AH) :=
  bd (l_J7_fill_53178_enough_5 FU x1 (0 : Int32) (nI 32) h) (fun v h => c_J7_fill_53178_enough_14 h)
def f_X3_isEnough (x1 : Int32) (h : AH) : Option (Int32 × AH) :=
  (if (x1 / (32 : Int32)) < 0 then some (zn (0 : Int32), h) else (if (nI 32) ≤ (x1 / (32 : Int32)) then some (zn (0 : Int32), h) else (if inb (x1 / (32 : Int32)) 32 = true then bd (f_X11_has (h.1 27 0 (x1 / (32 : Int32)).toNatClampNeg) (x1 - x1 / (32 : Int32) * (32 : Int32)) h) (fun y1 h2 => (if y1 = 0 then some (zn (0 : Int32), h2) else some (zn (1 : Int32), h2))) else none)))
def b_X3_isEnoughWithOneLess_2 (rc : Int32 → Int32 → AH → Option (Int32 × AH)) (x1 : Int32) (x2 : Int32) (h : AH) : Option (Int32 × AH) :=
  (if (h.1 12 0 5) ≤ x2 then some (zn (0 : Int32), h) else bd (f_X11_has x1 x2 h) (fun y1 h2 => (if y1 = 0 then rc x1 (x2 + (1 : Int32)) h2 else bd (f_X3_isEnough (x1 &&& (((1 : Int32) <<< (x2 &&& 31)) ^^^ (-1 : Int32))) h2) (fun y3 h4 => (if y3 = 0 then rc x1 (x2 + (1 : Int32)) h4 else some (zn (1 : Int32), h4))))))
def l_X3_isEnoughWithOneLess_2 : Nat → Int32 → Int32 → AH → Option (Int32 × AH)
  | 0 => fun _ _ _ => none
  | F + 1 => b_X3_isEnoughWithOneLess_2 (l_X3_isEnoughWithOneLess_2 F)
def f_X3_isEnoughWithOneLess (x1 : Int32) (h : AH) : Option (Int32 × AH) :=
  l_X3_isEnoughWithOneLess_2 FU x1 (0 : Int32) h
def f_X3_markEnough (x1 : Int32) (x2 : Int32) (h : AH) : Option (Unit × AH) :=
  (if x2 = 0 then some ((), h) else (if (x1 / (32 : Int32)) < 0 then some ((), h) else (if (nI 32) ≤ (x1 / (32 : Int32)) then some ((), h) else (if inb (x1 / (32 : Int32)) 32 = true then (if inb (x1 / (32 : Int32)) 32 = true then some ((), (hsI h 27 0 (x1 / (32 : Int32)).toNatClampNeg ((h.1 27 0 (x1 / (32 : Int32)).toNatClampNeg) ||| ((1 : Int32) <<< ((x1 - x1 / (32 : Int32) * (32 : Int32)) &&& 31))))) else none) else none))))
def b_X3_actsSomeWay_27 (rc : Int32 → Int32 → Int32 → Int32 → Int32 → Int32 → AH → Option (Int32 × AH)) (x1 : Int32) (x2 : Int32) (x3 : Int32) (x4 : Int32) (x5 : Int32) (x6 : Int32) (h : AH) : Option (Int32 × AH) :=
  (if (1024 : Int32) ≤ x6 then bd (f_X6_bitsOf 0 (3 : Int32) h) (fun y1 h2 => some ((x4 &&& y1), h2)) else bd (f_X3_isEnoughWithOneLess x5 h) (fun y3 h4 => (if y3 = 0 then bd (f_X0_standingBy ((x5 ||| x2) ^^^ (-1 : Int32)) (-1 : Int32) h4) (fun y5 h6 => bd (f_X11_has y5 x1 h6) (fun y7 h8 => (if y7 = 0 then bd (f_X3_markEnough x5 (0 : Int32) h8) (fun _ h10 => (if x5 = x3 then bd (f_X6_bitsOf 0 (3 : Int32) h10) (fun y11 h12 => some (((x4 ||| (0 : Int32)) &&& y11), h12)) else bd (f_X3_nextSubset x5 x3 h10) (fun y13 h14 => rc x1 x2 x3 (x4 ||| (0 : Int32)) y13 (x6 + (1 : Int32)) h14))) else (if y3 = 0 then bd (f_X3_markEnough x5 (1 : Int32) h8) (fun _ h16 => (if x5 = x3 then bd (f_X6_bitsOf 0 (3 : Int32) h16) (fun y17 h18 => some (((x4 ||| x5) &&& y17), h18)) else bd (f_X3_nextSubset x5 x3 h16) (fun y19 h20 => rc x1 x2 x3 (x4 ||| x5) y19 (x6 + (1 : Int32)) h20))) else bd (f_X3_markEnough x5 (1 : Int32) h8) (fun _ h22 => (if x5 = x3 then bd (f_X6_bitsOf 0 (3 : Int32) h22) (fun y23 h24 => some (((x4 ||| (0 : Int32)) &&& y23), h24)) else bd (f_X3_nextSubset x5 x3 h22) (fun y25 h26 => rc x1 x2 x3 (x4 ||| (0 : Int32)) y25 (x6 + (1 : Int32)) h26))))))) else (if y3 = 0 then bd (f_X3_markEnough x5 (1 : Int32) h4) (fun _ h28 => (if x5 = x3 then bd (f_X6_bitsOf 0 (3 : Int32) h28) (fun y29 h30 => some (((x4 ||| x5) &&& y29), h30)) else bd (f_X3_nextSubset x5 x3 h28) (fun y31 h32 => rc x1 x2 x3 (x4 ||| x5) y31 (x6 + (1 : Int32)) h32))) else bd (f_X3_markEnough x5 (1 : Int32) h4) (fun _ h34 => (if x5 = x3 then bd (f_X6_bitsOf 0 (3 : Int32) h34) (fun y35 h36 => some (((x4 ||| (0 : Int32)) &&& y35), h36)) else bd (f_X3_nextSubset x5 x3 h34) (fun y37 h38 => rc x1 x2 x3 (x4 ||| (0 : Int32)) y37 (x6 + (1 : Int32)) h38)))))))
def l_X3_actsSomeWay_27 : Nat → Int32 → Int32 → Int32 → Int32 → Int32 → Int32 → AH → Option (Int32 × AH)
  | 0 => fun _ _ _ _ _ _ _ => none
  | F + 1 => b_X3_actsSomeWay_27 (l_X3_actsSomeWay_27 F)
def f_X3_actsSomeWay (x1 : Int32) (h : AH) : Option (Int32 × AH) :=
  bd (f_J7_fill_53178_enough (0 : Int32) h) (fun _ h2 => bd (f_X0_reachOf x1 h2) (fun y3 h4 => bd (f_X0_standing  h4) (fun y5 h6 => l_X3_actsSomeWay_27 FU x1 ((1 : Int32) <<< (x1 &&& 31)) ((y3 &&& y5) &&& (((1 : Int32) <<< (x1 &&& 31)) ^^^ (-1 : Int32))) ((1 : Int32) <<< (x1 &&& 31)) (0 : Int32) (0 : Int32) h6)))
def b_X3_actsEachWay_9 (rc : Int32 → Int32 → Int32 → Int32 → AH → Option (Int32 × AH)) (x1 : Int32) (x2 : Int32) (x3 : Int32) (x4 : Int32) (h : AH) : Option (Int32 × AH) :=
  (if (h.1 12 0 5) ≤ x4 then some (x3, h) else bd (f_X11_has x2 x4 h) (fun y1 h2 => (if y1 = 0 then rc x1 x2 x3 (x4 + (1 : Int32)) h2 else bd (f_X0_standingBy ((h2.1 8 3 3) ||| ((1 : Int32) <<< (x4 &&& 31))) (-1 : Int32) h2) (fun y3 h4 => bd (f_X11_has y3 x1 h4) (fun y5 h6 => (if y5 = 0 then rc x1 x2 (x3 ||| ((1 : Int32) <<< (x4 &&& 31))) (x4 + (1 : Int32)) h6 else rc x1 x2 x3 (x4 + (1 : Int32)) h6))))))
def l_X3_actsEachWay_9 : Nat → Int32 → Int32 → Int32 → Int32 → AH → Option (Int32 × AH)
  | 0 => fun _ _ _ _ _ => none
  | F + 1 => b_X3_actsEachWay_9 (l_X3_actsEachWay_9 F)
def c_X3_actsEachWay_40  (x3 : Int32) (h : AH) : Option (Int32 × AH) :=
  some (x3, h)
def f_X3_actsEachWay (x1 : Int32) (h : AH) : Option (Int32 × AH) :=
  bd (f_X6_bitsOf 0 (3 : Int32) h) (fun y1 h2 => bd (l_X3_actsEachWay_9 FU x1 y1 (0 : Int32) (0 : Int32) h2) (fun v h => c_X3_actsEachWay_40 v h))
def f_X11_whose (x1 : Int32) (h : AH) : Option (Int32 × AH) :=
  bd (f_X11_isClaim x1 h) (fun y1 h2 => (if y1 = 0 then some ((-1 : Int32), h2) else bd (f_X0_standing  h2) (fun y3 h4 => bd (f_X11_has y3 x1 h4) (fun y5 h6 => (if y5 = 0 then some ((0 : Int32), (hsI h6 0 0 14 (0 : Int32))) else bd (f_X3_actsSomeWay x1 h6) (fun y7 h8 => bd (f_X3_actsEachWay x1 (hsI h8 0 0 14 y7)) (fun y9 h10 => some (y9, h10))))))))
def b_X12_isLean_10 (rc : Int32 → Int32 → Int32 → Int32 → AH → Option (Int32 × AH)) (x1 : Int32) (x2 : Int32) (x3 : Int32) (x4 : Int32) (h : AH) : Option (Int32 × AH) :=
  (if (h.1 34 0 10) ≤ x4 then some (x3, h) else (if x3 = 0 then some (x3, h) else bd (f_X12_has x1 x4 h) (fun y1 h2 => (if y1 = 0 then rc x1 x2 (1 : Int32) (x4 + (1 : Int32)) h2 else bd (f_X12_allReasons  h2) (fun y3 h4 => bd (f_X12_standing (x1 &&& (((1 : Int32) <<< (x4 &&& 31)) ^^^ (-1 : Int32))) y3 h4) (fun y5 h6 => bd (f_X12_has y5 x2 h6) (fun y7 h8 => (if y7 = 0 then rc x1 x2 (1 : Int32) (x4 + (1 : Int32)) h8 else rc x1 x2 (0 : Int32) (x4 + (1 : Int32)) h8))))))))
def l_X12_isLean_10 : Nat → Int32 → Int32 → Int32 → Int32 → AH → Option (Int32 × AH)
  | 0 => fun _ _ _ _ _ => none
  | F + 1 => b_X12_isLean_10 (l_X12_isLean_10 F)
def c_X12_isLean_40  (x3 : Int32) (h : AH) : Option (Int32 × AH) :=
  some (zn x3, h)
def f_X12_isLean (x1 : Int32) (x2 : Int32) (h : AH) : Option (Int32 × AH) :=
  bd (f_X12_allReasons  h) (fun y1 h2 => bd (f_X12_standing x1 y1 h2) (fun y3 h4 => bd (f_X12_has y3 x2 h4) (fun y5 h6 => bd (l_X12_isLean_10 FU x1 x2 y5 (0 : Int32) h6) (fun v h => c_X12_isLean_40 v h))))
def b_X12_whose_22 (rc : Int32 → Int32 → Int32 → Int32 → AH → Option (Int32 × AH)) (x1 : Int32) (x2 : Int32) (x3 : Int32) (x4 : Int32) (h : AH) : Option (Int32 × AH) :=
  (if (h.1 34 0 10) ≤ x4 then some (x2, h) else bd (f_X12_isAct x4 h) (fun y1 h2 => (if y1 = 0 then rc x1 (x2 ||| (0 : Int32)) x3 (x4 + (1 : Int32)) h2 else bd (f_X12_standWithout ((1 : Int32) <<< (x4 &&& 31)) h2) (fun y3 h4 => bd (f_X12_has y3 x1 h4) (fun y5 h6 => (if y5 = 0 then rc x1 (x2 ||| ((1 : Int32) <<< (x4 &&& 31))) x3 (x4 + (1 : Int32)) h6 else rc x1 (x2 ||| (0 : Int32)) x3 (x4 + (1 : Int32)) h6))))))
def l_X12_whose_22 : Nat → Int32 → Int32 → Int32 → Int32 → AH → Option (Int32 × AH)
  | 0 => fun _ _ _ _ _ => none
  | F + 1 => b_X12_whose_22 (l_X12_whose_22 F)
def b_X12_whose_50 (rc : Int32 → Int32 → Int32 → Int32 → AH → Option (Int32 × AH)) (x1 : Int32) (x2 : Int32) (x3 : Int32) (x4 : Int32) (h : AH) : Option (Int32 × AH) :=
  bd (f_X12_allClaims  h) (fun y1 h2 => (if y1 < x4 then some (x3, h2) else bd (f_X12_isLean x4 x1 h2) (fun y3 h4 => (if y3 = 0 then rc x1 x2 (x3 ||| (0 : Int32)) (x4 + (1 : Int32)) h4 else rc x1 x2 (x3 ||| x4) (x4 + (1 : Int32)) h4))))
def l_X12_whose_50 : Nat → Int32 → Int32 → Int32 → Int32 → AH → Option (Int32 × AH)
  | 0 => fun _ _ _ _ _ => none
  | F + 1 => b_X12_whose_50 (l_X12_whose_50 F)
def c_X12_whose_67  (x2 : Int32) (x3 : Int32) (h : AH) : Option (Int32 × AH) :=
  bd (f_X12_actSet  h) (fun y1 h2 => bd (f_X12_tells (x3 &&& y1) x2 h2) (fun y3 h4 => some (y3, h4)))
def c_X12_whose_48  (x1 : Int32) (x2 : Int32) (x3 : Int32) (h : AH) : Option (Int32 × AH) :=
  bd (l_X12_whose_50 FU x1 x2 x3 (0 : Int32) h) (fun v h => c_X12_whose_67 x2 v h)
def f_X12_whose (x1 : Int32) (h : AH) : Option (Int32 × AH) :=
  bd (f_X12_isClaim x1 h) (fun y1 h2 => (if y1 = 0 then some ((-1 : Int32), h2) else bd (f_X12_standNow  h2) (fun y3 h4 => bd (f_X12_has y3 x1 h4) (fun y5 h6 => (if y5 = 0 then bd (f_X12_tells (0 : Int32) (0 : Int32) h6) (fun y7 h8 => some (y7, h8)) else bd (l_X12_whose_22 FU x1 (0 : Int32) (0 : Int32) (0 : Int32) h6) (fun v h => c_X12_whose_48 x1 v (0 : Int32) h))))))
def b_X11_refusalOfTale_40 (rc : Int32 → Int32 → Int32 → AH → Option (Int32 × AH)) (x1 : Int32) (x2 : Int32) (x3 : Int32) (h : AH) : Option (Int32 × AH) :=
  (if x2 ≤ x3 then some ((0 : Int32), h) else (if inb x1 6 = true then (if inb x3 40 = true then (if (x3 - x3 / (2 : Int32) * (2 : Int32)) = (1 : Int32) then bd (f_X11_isReason (h.1 3 (x1.toNatClampNeg) x3.toNatClampNeg) h) (fun y1 h2 => (if y1 = 0 then bd (f_X11_refuse (3 : Int32) h2) (fun y3 h4 => some (y3, h4)) else rc x1 x2 (x3 + (1 : Int32)) h2)) else bd (f_X11_isClaim (h.1 3 (x1.toNatClampNeg) x3.toNatClampNeg) h) (fun y5 h6 => (if y5 = 0 then bd (f_X11_refuse (3 : Int32) h6) (fun y7 h8 => some (y7, h8)) else rc x1 x2 (x3 + (1 : Int32)) h6))) else none) else none))
def l_X11_refusalOfTale_40 : Nat → Int32 → Int32 → Int32 → AH → Option (Int32 × AH)
  | 0 => fun _ _ _ _ => none
  | F + 1 => b_X11_refusalOfTale_40 (l_X11_refusalOfTale_40 F)
def f_X11_refusalOfTale (x1 : Int32) (h : AH) : Option (Int32 × AH) :=
  bd (f_X11_isRow x1 h) (fun y1 h2 => (if y1 = 0 then some ((-1 : Int32), h2) else (if (h2.1 12 0 5) = 0 then some ((-4 : Int32), h2) else (if inb x1 6 = true then bd (f_X5_isMissing (x1.toNatClampNeg) h2) (fun y3 h4 => (if y3 = 0 then (if inb x1 6 = true then (if ((h4.1 2 (x1.toNatClampNeg) 1) - (h4.1 2 (x1.toNatClampNeg) 1) / (2 : Int32) * (2 : Int32)) = 0 then bd (f_X11_refuse (5 : Int32) h4) (fun y5 h6 => some (y5, h6)) else (if (h4.1 2 (x1.toNatClampNeg) 1) ≤ (31 : Int32) then l_X11_refusalOfTale_40 FU x1 (h4.1 2 (x1.toNatClampNeg) 1) (0 : Int32) h4 else bd (f_X11_refuse (5 : Int32) h4) (fun y7 h8 => some (y7, h8)))) else none) else bd (f_X11_refuse (1 : Int32) h4) (fun y9 h10 => some (y9, h10)))) else none))))
def b_X8_goodPairs_18 (rc : Nat → Int32 → Int32 → Int32 → Int32 → Int32 → AH → Option (Int32 × AH)) (r1 : Nat) (x2 : Int32) (x3 : Int32) (x4 : Int32) (x5 : Int32) (x6 : Int32) (h : AH) : Option (Int32 × AH) :=
  (if x4 ≤ x6 then (if (h.1 8 3 5) = (1 : Int32) then bd (f_X0_wayOut x2 x3 h) (fun y1 h2 => some (x5, (hsI h2 28 0 3 y1))) else bd (f_X0_wayOut x2 (0 : Int32) h) (fun y3 h4 => some (x5, (hsI h4 28 0 3 y3)))) else (if inb (((2 : Int32) * x6) + (1 : Int32)) 40 = true then (if inb (((2 : Int32) * x6) + (2 : Int32)) 40 = true then (if (h.1 8 3 5) = (1 : Int32) then bd (f_X0_canGo x2 (h.1 3 r1 (((2 : Int32) * x6) + (1 : Int32)).toNatClampNeg) (h.1 3 r1 (((2 : Int32) * x6) + (2 : Int32)).toNatClampNeg) x3 h) (fun y5 h6 => (if y5 = 0 then (if (h6.1 8 3 5) = (1 : Int32) then bd (f_X0_wayOut x2 x3 h6) (fun y7 h8 => some (x5, (hsI h8 28 0 3 y7))) else bd (f_X0_wayOut x2 (0 : Int32) h6) (fun y9 h10 => some (x5, (hsI h10 28 0 3 y9)))) else rc r1 (h.1 3 r1 (((2 : Int32) * x6) + (2 : Int32)).toNatClampNeg) (x3 ||| ((1 : Int32) <<< ((h.1 3 r1 (((2 : Int32) * x6) + (2 : Int32)).toNatClampNeg) &&& 31))) x4 (x5 + (1 : Int32)) (x6 + (1 : Int32)) h6)) else bd (f_X0_canGo x2 (h.1 3 r1 (((2 : Int32) * x6) + (1 : Int32)).toNatClampNeg) (h.1 3 r1 (((2 : Int32) * x6) + (2 : Int32)).toNatClampNeg) (0 : Int32) h) (fun y11 h12 => (if y11 = 0 then (if (h12.1 8 3 5) = (1 : Int32) then bd (f_X0_wayOut x2 x3 h12) (fun y13 h14 => some (x5, (hsI h14 28 0 3 y13))) else bd (f_X0_wayOut x2 (0 : Int32) h12) (fun y15 h16 => some (x5, (hsI h16 28 0 3 y15)))) else rc r1 (h.1 3 r1 (((2 : Int32) * x6) + (2 : Int32)).toNatClampNeg) (x3 ||| ((1 : Int32) <<< ((h.1 3 r1 (((2 : Int32) * x6) + (2 : Int32)).toNatClampNeg) &&& 31))) x4 (x5 + (1 : Int32)) (x6 + (1 : Int32)) h12))) else none) else none))
def l_X8_goodPairs_18 : Nat → Nat → Int32 → Int32 → Int32 → Int32 → Int32 → AH → Option (Int32 × AH)
  | 0 => fun _ _ _ _ _ _ _ => none
  | F + 1 => b_X8_goodPairs_18 (l_X8_goodPairs_18 F)
def f_X8_goodPairs (r1 : Nat) (h : AH) : Option (Int32 × AH) :=
  l_X8_goodPairs_18 FU r1 (h.1 3 r1 (0 : Int32).toNatClampNeg) ((1 : Int32) <<< ((h.1 3 r1 (0 : Int32).toNatClampNeg) &&& 31)) ((h.1 2 r1 1) / (2 : Int32)) (0 : Int32) (0 : Int32) h
def f_X11_judge (x1 : Int32) (h : AH) : Option (Int32 × AH) :=
  bd (f_X11_refusalOfTale x1 h) (fun y1 h2 => (if y1 = 0 then (if inb x1 6 = true then bd (f_X8_goodPairs (x1.toNatClampNeg) h2) (fun y3 h4 => some (y3, (hsI h4 0 0 14 (h4.1 28 0 3)))) else none) else some (y1, h2)))
def b_X12_needTold_40 (rc : Int32 → Int32 → Int32 → AH → Option (Int32 × AH)) (x1 : Int32) (x2 : Int32) (x3 : Int32) (h : AH) : Option (Int32 × AH) :=
  (if inb x1 6 = true then (if (h.1 36 0 x1.toNatClampNeg) ≤ x3 then some (x2, h) else (if x2 = 0 then rc x1 (0 : Int32) (x3 + (1 : Int32)) h else (if (x3 - x3 / (2 : Int32) * (2 : Int32)) = 0 then bd (f_X12_rowAt x1 x3 h) (fun y1 h2 => bd (f_X12_isClaim y1 h2) (fun y3 h4 => (if y3 = 0 then rc x1 (0 : Int32) (x3 + (1 : Int32)) h4 else rc x1 (1 : Int32) (x3 + (1 : Int32)) h4))) else bd (f_X12_rowAt x1 x3 h) (fun y5 h6 => bd (f_X12_isReason y5 h6) (fun y7 h8 => (if y7 = 0 then rc x1 (0 : Int32) (x3 + (1 : Int32)) h8 else rc x1 (1 : Int32) (x3 + (1 : Int32)) h8)))))) else none)
def l_X12_needTold_40 : Nat → Int32 → Int32 → Int32 → AH → Option (Int32 × AH)
  | 0 => fun _ _ _ _ => none
  | F + 1 => b_X12_needTold_40 (l_X12_needTold_40 F)
def c_X12_needTold_73  (x2 : Int32) (h : AH) : Option (Int32 × AH) :=
  (if x2 = 0 then bd (f_X12_meets (3 : Int32) h) (fun y1 h2 => some (y1, h2)) else some ((0 : Int32), h))
def f_X12_needTold (x1 : Int32) (h : AH) : Option (Int32 × AH) :=
  bd (f_X12_isRow x1 h) (fun y1 h2 => (if y1 = 0 then some ((-1 : Int32), h2) else (if (h2.1 34 0 10) = 0 then some ((-4 : Int32), h2) else (if inb x1 6 = true then (if 0 ≤ (h2.1 36 0 x1.toNatClampNeg) then (if inb x1 6 = true then (if ((h2.1 36 0 x1.toNatClampNeg) - (h2.1 36 0 x1.toNatClampNeg) / (2 : Int32) * (2 : Int32)) = 0 then bd (f_X12_meets (5 : Int32) h2) (fun y3 h4 => some (y3, h4)) else (if inb x1 6 = true then (if (h2.1 36 0 x1.toNatClampNeg) ≤ (31 : Int32) then bd (l_X12_needTold_40 FU x1 (1 : Int32) (0 : Int32) h2) (fun v h => c_X12_needTold_73 v h) else bd (f_X12_meets (5 : Int32) h2) (fun y5 h6 => some (y5, h6))) else none)) else none) else bd (f_X12_meets (1 : Int32) h2) (fun y7 h8 => some (y7, h8))) else none))))
def b_X12_mayAsk_m_tried_7 (rc : Int32 → Int32 → Int32 → AH → Option (Int32 × AH)) (x3 : Int32) (x4 : Int32) (x5 : Int32) (h : AH) : Option (Int32 × AH) :=
  (if x3 ≤ x5 then some (x4, h) else (if (h.1 34 0 18) = (1 : Int32) then (if inb x5 32 = true then rc x3 (x4 &&& (((1 : Int32) <<< ((h.1 57 0 x5.toNatClampNeg) &&& 31)) ^^^ (-1 : Int32))) (x5 + (1 : Int32)) h else none) else some (x4, h)))
def l_X12_mayAsk_m_tried_7 : Nat → Int32 → Int32 → Int32 → AH → Option (Int32 × AH)
  | 0 => fun _ _ _ _ => none
  | F + 1 => b_X12_mayAsk_m_tried_7 (l_X12_mayAsk_m_tried_7 F)
def c_X12_mayAsk_m_tried_26  (x4 : Int32) (h : AH) : Option (Int32 × AH) :=
  some (x4, h)
def f_X12_mayAsk_m_tried (x1 : Int32) (x3 : Int32) (h : AH) : Option (Int32 × AH) :=
  (if inb x1 14 = true then bd (l_X12_mayAsk_m_tried_7 FU x3 (h.1 43 0 x1.toNatClampNeg) (0 : Int32) h) (fun v h => c_X12_mayAsk_m_tried_26 v h) else none)
def b_X12_mayAnswer_m_tried_10 (rc : Int32 → Int32 → Int32 → Int32 → AH → Option (Int32 × AH)) (x2 : Int32) (x3 : Int32) (x4 : Int32) (x5 : Int32) (h : AH) : Option (Int32 × AH) :=
  (if (h.1 34 0 11) ≤ x5 then some (x4, h) else bd (f_X12_isOver x3 h) (fun y1 h2 => (if y1 = 0 then bd (f_X12_usableFor x3 h2) (fun y3 h4 => bd (f_X12_has y3 x5 h4) (fun y5 h6 => (if y5 = 0 then rc x2 x3 (x4 ||| (0 : Int32)) (x5 + (1 : Int32)) h6 else bd (f_X12_mayAsk_m_tried x5 x2 h6) (fun y7 h8 => (if y7 = 0 then rc x2 x3 (x4 ||| (0 : Int32)) (x5 + (1 : Int32)) h8 else rc x2 x3 (x4 ||| ((1 : Int32) <<< (x5 &&& 31))) (x5 + (1 : Int32)) h8))))) else some (x4, h2))))
def l_X12_mayAnswer_m_tried_10 : Nat → Int32 → Int32 → Int32 → Int32 → AH → Option (Int32 × AH)
  | 0 => fun _ _ _ _ _ => none
  | F + 1 => b_X12_mayAnswer_m_tried_10 (l_X12_mayAnswer_m_tried_10 F)
def c_X12_mayAnswer_m_tried_40  (x4 : Int32) (h : AH) : Option (Int32 × AH) :=
  some (x4, h)
def f_X12_mayAnswer_m_tried (x2 : Int32) (h : AH) : Option (Int32 × AH) :=
  (if inb (x2 - (1 : Int32)) 32 = true then bd (l_X12_mayAnswer_m_tried_10 FU x2 (h.1 57 0 (x2 - (1 : Int32)).toNatClampNeg) (0 : Int32) (0 : Int32) h) (fun v h => c_X12_mayAnswer_m_tried_40 v h) else none)
def f_X12_canAnswer_m_tried (x2 : Int32) (x3 : Int32) (x4 : Int32) (h : AH) : Option (Int32 × AH) :=
  bd (f_X12_mayAnswer_m_tried x2 h) (fun y1 h2 => bd (f_X12_has y1 x3 h2) (fun y3 h4 => (if y3 = 0 then some (zn (0 : Int32), h4) else bd (f_X12_mayAsk_m_tried x3 x2 h4) (fun y5 h6 => bd (f_X12_has y5 x4 h6) (fun y7 h8 => (if y7 = 0 then some (zn (0 : Int32), h8) else some (zn (1 : Int32), h8)))))))
def f_X12_endOf_m_tried (x2 : Int32) (h : AH) : Option (Int32 × AH) :=
  (if inb (x2 - (1 : Int32)) 32 = true then (if inb (h.1 57 0 (x2 - (1 : Int32)).toNatClampNeg) 10 = true then (if (h.1 41 0 (h.1 57 0 (x2 - (1 : Int32)).toNatClampNeg).toNatClampNeg) = (1 : Int32) then some ((1 : Int32), h) else bd (f_X12_isAtLoss (h.1 57 0 (x2 - (1 : Int32)).toNatClampNeg) h) (fun y1 h2 => (if y1 = 0 then bd (f_X12_mayAnswer_m_tried x2 h2) (fun y3 h4 => (if y3 = 0 then some ((3 : Int32), h4) else some ((0 : Int32), h4))) else some ((2 : Int32), h2)))) else none) else none)
def b_X12_judge_18 (rc : Int32 → Int32 → AH → Option (Int32 × AH)) (x1 : Int32) (x3 : Int32) (h : AH) : Option (Int32 × AH) :=
  (if inb x1 6 = true then (if (h.1 36 0 x1.toNatClampNeg) ≤ ((2 : Int32) * x3) then some (x3, h) else bd (f_X12_rowAt x1 (((2 : Int32) * x3) - (1 : Int32)) h) (fun y1 h2 => bd (f_X12_rowAt x1 ((2 : Int32) * x3) h2) (fun y3 h4 => bd (f_X12_canAnswer_m_tried x3 y1 y3 h4) (fun y5 h6 => (if y5 = 0 then some (x3, h6) else bd (f_X12_rowAt x1 ((2 : Int32) * x3) h6) (fun y7 h8 => (if inb x3 32 = true then rc x1 (x3 + (1 : Int32)) (hsI h8 57 0 x3.toNatClampNeg y7) else none))))))) else none)
def l_X12_judge_18 : Nat → Int32 → Int32 → AH → Option (Int32 × AH)
  | 0 => fun _ _ _ => none
  | F + 1 => b_X12_judge_18 (l_X12_judge_18 F)
def c_X12_judge_58  (x3 : Int32) (h : AH) : Option (Int32 × AH) :=
  bd (f_X12_endOf_m_tried x3 h) (fun y1 h2 => bd (f_X12_tells y1 (x3 - (1 : Int32)) h2) (fun y3 h4 => some (y3, h4)))
def f_X12_judge (x1 : Int32) (h : AH) : Option (Int32 × AH) :=
  bd (f_X12_needTold x1 h) (fun y1 h2 => (if 0 ≤ y1 then bd (f_X12_rowAt x1 (0 : Int32) h2) (fun y3 h4 => bd (l_X12_judge_18 FU x1 (1 : Int32) (hsI h4 57 0 (0 : Int32).toNatClampNeg y3)) (fun v h => c_X12_judge_58 v h)) else some (y1, h2)))
def b_X8_reasonsIn_4 (rc : Nat → Int32 → Int32 → AH → Option (Int32 × AH)) (r1 : Nat) (x2 : Int32) (x3 : Int32) (h : AH) : Option (Int32 × AH) :=
  (if (h.1 2 r1 1) ≤ x3 then some (x2, h) else (if inb x3 40 = true then rc r1 (x2 ||| ((1 : Int32) <<< ((h.1 3 r1 x3.toNatClampNeg) &&& 31))) (x3 + (2 : Int32)) h else none))
def l_X8_reasonsIn_4 : Nat → Nat → Int32 → Int32 → AH → Option (Int32 × AH)
  | 0 => fun _ _ _ _ => none
  | F + 1 => b_X8_reasonsIn_4 (l_X8_reasonsIn_4 F)
def c_X8_reasonsIn_19  (x2 : Int32) (h : AH) : Option (Int32 × AH) :=
  some (x2, h)
def f_X8_reasonsIn (r1 : Nat) (h : AH) : Option (Int32 × AH) :=
  bd (l_X8_reasonsIn_4 FU r1 (0 : Int32) (1 : Int32) h) (fun v h => c_X8_reasonsIn_19 v h)
def b_X8_claimsIn_4 (rc : Nat → Int32 → Int32 → AH → Option (Int32 × AH)) (r1 : Nat) (x2 : Int32) (x3 : Int32) (h : AH) : Option (Int32 × AH) :=
  (if (h.1 2 r1 1) ≤ x3 then some (x2, h) else (if inb x3 40 = true then (if (x3 - x3 / (2 : Int32) * (2 : Int32)) = (1 : Int32) then (if inb (h.1 3 r1 x3.toNatClampNeg) 14 = true then rc r1 (x2 ||| (h.1 16 0 (h.1 3 r1 x3.toNatClampNeg).toNatClampNeg)) (x3 + (1 : Int32)) h else none) else rc r1 (x2 ||| ((1 : Int32) <<< ((h.1 3 r1 x3.toNatClampNeg) &&& 31))) (x3 + (1 : Int32)) h) else none))
def l_X8_claimsIn_4 : Nat → Nat → Int32 → Int32 → AH → Option (Int32 × AH)
  | 0 => fun _ _ _ _ => none
  | F + 1 => b_X8_claimsIn_4 (l_X8_claimsIn_4 F)
def c_X8_claimsIn_32  (x2 : Int32) (h : AH) : Option (Int32 × AH) :=
  some (x2, h)
def f_X8_claimsIn (r1 : Nat) (h : AH) : Option (Int32 × AH) :=
  bd (l_X8_claimsIn_4 FU r1 (0 : Int32) (0 : Int32) h) (fun v h => c_X8_claimsIn_32 v h)
def f_X11_held (x1 : Int32) (h : AH) : Option (Int32 × AH) :=
  bd (f_X11_refusalOfTale x1 h) (fun y1 h2 => (if y1 = 0 then (if inb x1 6 = true then bd (f_X8_reasonsIn (x1.toNatClampNeg) h2) (fun y3 h4 => bd (f_X0_standingBy (h2.1 8 3 3) y3 h4) (fun y5 h6 => (if inb x1 6 = true then bd (f_X8_claimsIn (x1.toNatClampNeg) (hsI h6 0 0 14 y5)) (fun y7 h8 => some (y7, h8)) else none))) else none) else some (y1, h2)))
def b_X12_held_14 (rc : Int32 → Int32 → Int32 → Int32 → AH → Option ((Int32 × Int32) × AH)) (x1 : Int32) (x3 : Int32) (x4 : Int32) (x5 : Int32) (h : AH) : Option ((Int32 × Int32) × AH) :=
  (if inb x1 6 = true then (if (h.1 36 0 x1.toNatClampNeg) ≤ x5 then some ((x3, x4), h) else (if (x5 - x5 / (2 : Int32) * (2 : Int32)) = 0 then bd (f_X12_rowAt x1 x5 h) (fun y1 h2 => (if (x5 - x5 / (2 : Int32) * (2 : Int32)) = (1 : Int32) then bd (f_X12_rowAt x1 x5 h2) (fun y3 h4 => rc x1 (x3 ||| ((1 : Int32) <<< (y1 &&& 31))) (x4 ||| ((1 : Int32) <<< (y3 &&& 31))) (x5 + (1 : Int32)) h4) else rc x1 (x3 ||| ((1 : Int32) <<< (y1 &&& 31))) (x4 ||| (0 : Int32)) (x5 + (1 : Int32)) h2)) else bd (f_X12_rowAt x1 x5 h) (fun y5 h6 => (if inb y5 14 = true then (if (x5 - x5 / (2 : Int32) * (2 : Int32)) = (1 : Int32) then bd (f_X12_rowAt x1 x5 h6) (fun y7 h8 => rc x1 (x3 ||| (h6.1 43 0 y5.toNatClampNeg)) (x4 ||| ((1 : Int32) <<< (y7 &&& 31))) (x5 + (1 : Int32)) h8) else rc x1 (x3 ||| (h6.1 43 0 y5.toNatClampNeg)) (x4 ||| (0 : Int32)) (x5 + (1 : Int32)) h6) else none)))) else none)
def l_X12_held_14 : Nat → Int32 → Int32 → Int32 → Int32 → AH → Option ((Int32 × Int32) × AH)
  | 0 => fun _ _ _ _ _ => none
  | F + 1 => b_X12_held_14 (l_X12_held_14 F)
def c_X12_held_59  (x3 : Int32) (x4 : Int32) (h : AH) : Option (Int32 × AH) :=
  bd (f_X12_allClaims  h) (fun y1 h2 => bd (f_X12_standing y1 x4 h2) (fun y3 h4 => bd (f_X12_tells y3 x3 h4) (fun y5 h6 => some (y5, h6))))
def f_X12_held (x1 : Int32) (h : AH) : Option (Int32 × AH) :=
  bd (f_X12_needTold x1 h) (fun y1 h2 => (if 0 ≤ y1 then bd (l_X12_held_14 FU x1 (0 : Int32) (0 : Int32) (0 : Int32) h2) (fun v h => c_X12_held_59 v.1 v.2 h) else some (y1, h2)))
def b_X8_liesIn_7 (rc : Nat → Int32 → Int32 → AH → Option (Int32 × AH)) (r1 : Nat) (x2 : Int32) (x3 : Int32) (h : AH) : Option (Int32 × AH) :=
  (if (h.1 2 r1 1) ≤ x3 then some (x2, h) else (if inb x3 40 = true then (if inb (h.1 3 r1 x3.toNatClampNeg) 14 = true then (if inb (x3 - (1 : Int32)) 40 = true then (if (h.1 15 0 (h.1 3 r1 x3.toNatClampNeg).toNatClampNeg) = (h.1 3 r1 (x3 - (1 : Int32)).toNatClampNeg) then rc r1 x2 (x3 + (2 : Int32)) h else (if x2 = 0 then rc r1 (x2 + (1 : Int32)) (x3 + (2 : Int32)) (hsI h 28 0 4 (x3 / (2 : Int32))) else rc r1 (x2 + (1 : Int32)) (x3 + (2 : Int32)) (hsI h 28 0 4 (h.1 28 0 4)))) else none) else none) else none))
def l_X8_liesIn_7 : Nat → Nat → Int32 → Int32 → AH → Option (Int32 × AH)
  | 0 => fun _ _ _ _ => none
  | F + 1 => b_X8_liesIn_7 (l_X8_liesIn_7 F)
def c_X8_liesIn_39  (x2 : Int32) (h : AH) : Option (Int32 × AH) :=
  some (x2, h)
def f_X8_liesIn (r1 : Nat) (h : AH) : Option (Int32 × AH) :=
  bd (l_X8_liesIn_7 FU r1 (0 : Int32) (1 : Int32) (hsI h 28 0 4 (-9 : Int32))) (fun v h => c_X8_liesIn_39 v h)
def f_X11_lied (x1 : Int32) (h : AH) : Option (Int32 × AH) :=
  bd (f_X11_refusalOfTale x1 h) (fun y1 h2 => (if y1 = 0 then (if inb x1 6 = true then bd (f_X8_liesIn (x1.toNatClampNeg) h2) (fun y3 h4 => some (y3, (hsI h4 0 0 14 (h4.1 28 0 4)))) else none) else some (y1, h2)))
def b_X12_lied_14 (rc : Int32 → Int32 → Int32 → Int32 → AH → Option ((Int32 × Int32) × AH)) (x1 : Int32) (x3 : Int32) (x4 : Int32) (x5 : Int32) (h : AH) : Option ((Int32 × Int32) × AH) :=
  (if inb x1 6 = true then (if (h.1 36 0 x1.toNatClampNeg) ≤ x5 then some ((x3, x4), h) else bd (f_X12_rowAt x1 x5 h) (fun y1 h2 => (if inb y1 14 = true then bd (f_X12_rowAt x1 (x5 - (1 : Int32)) h2) (fun y3 h4 => (if (h2.1 42 0 y1.toNatClampNeg) = y3 then rc x1 (x3 + (0 : Int32)) x4 (x5 + (2 : Int32)) h4 else (if x3 = 0 then rc x1 (x3 + (1 : Int32)) (x5 / (2 : Int32)) (x5 + (2 : Int32)) h4 else rc x1 (x3 + (1 : Int32)) x4 (x5 + (2 : Int32)) h4))) else none))) else none)
def l_X12_lied_14 : Nat → Int32 → Int32 → Int32 → Int32 → AH → Option ((Int32 × Int32) × AH)
  | 0 => fun _ _ _ _ _ => none
  | F + 1 => b_X12_lied_14 (l_X12_lied_14 F)
def c_X12_lied_58  (x3 : Int32) (x4 : Int32) (h : AH) : Option (Int32 × AH) :=
  bd (f_X12_tells x4 x3 h) (fun y1 h2 => some (y1, h2))
def f_X12_lied (x1 : Int32) (h : AH) : Option (Int32 × AH) :=
  bd (f_X12_needTold x1 h) (fun y1 h2 => (if 0 ≤ y1 then bd (l_X12_lied_14 FU x1 (0 : Int32) (-9 : Int32) (1 : Int32) h2) (fun v h => c_X12_lied_58 v.1 v.2 h) else some (y1, h2)))
def b_J7_fill_53178_links_5 (rc : Int32 → Int32 → Int32 → AH → Option (Unit × AH)) (x1 : Int32) (x2 : Int32) (x3 : Int32) (h : AH) : Option (Unit × AH) :=
  (if x3 ≤ x2 then some ((), h) else (if inb x2 100 = true then rc x1 (x2 + (1 : Int32)) x3 (hsI h 32 0 x2.toNatClampNeg x1) else none))
def l_J7_fill_53178_links_5 : Nat → Int32 → Int32 → Int32 → AH → Option (Unit × AH)
  | 0 => fun _ _ _ _ => none
  | F + 1 => b_J7_fill_53178_links_5 (l_J7_fill_53178_links_5 F)
def c_J7_fill_53178_links_14   (h : AH) : Option (Unit × AH) :=
  some ((), h)
def f_J7_fill_53178_links (x1 : Int32) (h : AH) : Option (Unit × AH) :=
  bd (l_J7_fill_53178_links_5 FU x1 (0 : Int32) (nI 100) h) (fun v h => c_J7_fill_53178_links_14 h)
def b_X2_countLinks_13 (rc : Int32 → Int32 → AH → Option (Unit × AH)) (x1 : Int32) (x2 : Int32) (h : AH) : Option (Unit × AH) :=
  (if (h.1 12 0 5) ≤ x2 then some ((), h) else bd (f_X0_isUsable x1 h) (fun y1 h2 => (if y1 = 0 then (if inb x1 14 = true then (if inb (((10 : Int32) * (h2.1 15 0 x1.toNatClampNeg)) + x2) 100 = true then (if inb (((10 : Int32) * (h2.1 15 0 x1.toNatClampNeg)) + x2) 100 = true then rc x1 (x2 + (1 : Int32)) (hsI h2 32 0 (((10 : Int32) * (h2.1 15 0 x1.toNatClampNeg)) + x2).toNatClampNeg ((h2.1 32 0 (((10 : Int32) * (h2.1 15 0 x1.toNatClampNeg)) + x2).toNatClampNeg) + (0 : Int32))) else none) else none) else none) else (if inb x1 14 = true then bd (f_X11_has (h2.1 16 0 x1.toNatClampNeg) x2 h2) (fun y3 h4 => (if y3 = 0 then (if inb x1 14 = true then (if inb (((10 : Int32) * (h4.1 15 0 x1.toNatClampNeg)) + x2) 100 = true then (if inb (((10 : Int32) * (h4.1 15 0 x1.toNatClampNeg)) + x2) 100 = true then rc x1 (x2 + (1 : Int32)) (hsI h4 32 0 (((10 : Int32) * (h4.1 15 0 x1.toNatClampNeg)) + x2).toNatClampNeg ((h4.1 32 0 (((10 : Int32) * (h4.1 15 0 x1.toNatClampNeg)) + x2).toNatClampNeg) + (0 : Int32))) else none) else none) else none) else (if inb x1 14 = true then (if inb (((10 : Int32) * (h4.1 15 0 x1.toNatClampNeg)) + x2) 100 = true then (if inb (((10 : Int32) * (h4.1 15 0 x1.toNatClampNeg)) + x2) 100 = true then rc x1 (x2 + (1 : Int32)) (hsI h4 32 0 (((10 : Int32) * (h4.1 15 0 x1.toNatClampNeg)) + x2).toNatClampNeg ((h4.1 32 0 (((10 : Int32) * (h4.1 15 0 x1.toNatClampNeg)) + x2).toNatClampNeg) + (1 : Int32))) else none) else none) else none))) else none))))
def l_X2_countLinks_13 : Nat → Int32 → Int32 → AH → Option (Unit × AH)
  | 0 => fun _ _ _ => none
  | F + 1 => b_X2_countLinks_13 (l_X2_countLinks_13 F)
def c_X2_countLinks_57 (rc : Int32 → AH → Option (Unit × AH)) (x1 : Int32) (h : AH) : Option (Unit × AH) :=
  rc (x1 + (1 : Int32)) h
def b_X2_countLinks_6 (rc : Int32 → AH → Option (Unit × AH)) (x1 : Int32) (h : AH) : Option (Unit × AH) :=
  (if (h.1 12 0 6) ≤ x1 then some ((), h) else bd (l_X2_countLinks_13 FU x1 (0 : Int32) h) (fun v h => c_X2_countLinks_57 rc x1 h))
def l_X2_countLinks_6 : Nat → Int32 → AH → Option (Unit × AH)
  | 0 => fun _ _ => none
  | F + 1 => b_X2_countLinks_6 (l_X2_countLinks_6 F)
def c_X2_countLinks_59   (h : AH) : Option (Unit × AH) :=
  some ((), h)
def f_X2_countLinks  (h : AH) : Option (Unit × AH) :=
  bd (f_J7_fill_53178_links (0 : Int32) h) (fun _ h2 => bd (l_X2_countLinks_6 FU (0 : Int32) h2) (fun v h => c_X2_countLinks_59 h))
def b_X2_rowsOn_13 (R : Int32 → Int32 → Int32 → Int32 → AH → Option (Int32 × AH)) (rc : Int32 → Int32 → Int32 → Int32 → Int32 → Int32 → AH → Option (Int32 × AH)) (x1 : Int32) (x2 : Int32) (x3 : Int32) (x4 : Int32) (x5 : Int32) (x6 : Int32) (h : AH) : Option (Int32 × AH) :=
  (if (h.1 12 0 5) ≤ x6 then some (x5, h) else bd (f_X11_has x4 x6 h) (fun y1 h2 => (if y1 = 0 then (if inb (((10 : Int32) * x1) + x6) 100 = true then (if (h2.1 32 0 (((10 : Int32) * x1) + x6).toNatClampNeg) ≤ 0 then rc x1 x2 x3 x4 x5 (x6 + (1 : Int32)) h2 else (if (h2.1 8 3 5) = (1 : Int32) then bd (R x6 x2 (x3 - (1 : Int32)) (x4 ||| ((1 : Int32) <<< (x6 &&& 31))) h2) (fun y3 h4 => rc x1 x2 x3 x4 (x5 + ((h2.1 32 0 (((10 : Int32) * x1) + x6).toNatClampNeg) * y3)) (x6 + (1 : Int32)) h4) else bd (R x6 x2 (x3 - (1 : Int32)) (0 : Int32) h2) (fun y5 h6 => rc x1 x2 x3 x4 (x5 + ((h2.1 32 0 (((10 : Int32) * x1) + x6).toNatClampNeg) * y5)) (x6 + (1 : Int32)) h6))) else none) else rc x1 x2 x3 x4 x5 (x6 + (1 : Int32)) h2)))
def l_X2_rowsOn_13 (R : Int32 → Int32 → Int32 → Int32 → AH → Option (Int32 × AH)) : Nat → Int32 → Int32 → Int32 → Int32 → Int32 → Int32 → AH → Option (Int32 × AH)
  | 0 => fun _ _ _ _ _ _ _ => none
  | F + 1 => b_X2_rowsOn_13 R (l_X2_rowsOn_13 R F)
def c_X2_rowsOn_61 (R : Int32 → Int32 → Int32 → Int32 → AH → Option (Int32 × AH)) (x5 : Int32) (h : AH) : Option (Int32 × AH) :=
  some (x5, h)
def g_X2_rowsOn (R : Int32 → Int32 → Int32 → Int32 → AH → Option (Int32 × AH)) (x1 : Int32) (x2 : Int32) (x3 : Int32) (x4 : Int32) (h : AH) : Option (Int32 × AH) :=
  (if 0 < x3 then bd (l_X2_rowsOn_13 R FU x1 x2 x3 x4 (0 : Int32) (0 : Int32) h) (fun v h => c_X2_rowsOn_61 R v h) else (if x1 = x2 then some ((1 : Int32), h) else some ((0 : Int32), h)))
def f_X2_rowsOn : Nat → Int32 → Int32 → Int32 → Int32 → AH → Option (Int32 × AH)
  | 0 => fun _ _ _ _ _ => none
  | D + 1 => g_X2_rowsOn (f_X2_rowsOn D)
def f_X2_rowsBetween (x1 : Int32) (x2 : Int32) (x3 : Int32) (h : AH) : Option (Int32 × AH) :=
  bd (f_X2_countLinks  h) (fun _ h2 => (if (h2.1 8 3 5) = (1 : Int32) then bd (f_X2_rowsOn 12 x1 x2 x3 ((1 : Int32) <<< (x1 &&& 31)) h2) (fun y3 h4 => some (y3, h4)) else bd (f_X2_rowsOn 12 x1 x2 x3 (0 : Int32) h2) (fun y5 h6 => some (y5, h6))))
def f_X11_fits (x1 : Int32) (x2 : Int32) (x3 : Int32) (h : AH) : Option (Int32 × AH) :=
  bd (f_X11_isClaim x1 h) (fun y1 h2 => (if y1 = 0 then some ((-1 : Int32), h2) else bd (f_X11_isClaim x2 h2) (fun y3 h4 => (if y3 = 0 then some ((-1 : Int32), h4) else (if x3 < 0 then some ((-1 : Int32), h4) else (if x3 ≤ (5 : Int32) then bd (f_X2_rowsBetween x1 x2 x3 h4) (fun y5 h6 => some (y5, h6)) else some ((-1 : Int32), h4)))))))
def b_X12_fitsFrom_43 (R : Int32 → Int32 → Int32 → AH → Option (Int32 × AH)) (rc : Int32 → Int32 → Int32 → Int32 → Int32 → Int32 → Int32 → Int32 → AH → Option (Int32 × AH)) (x1 : Int32) (x2 : Int32) (x3 : Int32) (x4 : Int32) (x5 : Int32) (x6 : Int32) (x7 : Int32) (x8 : Int32) (h : AH) : Option (Int32 × AH) :=
  (if (h.1 34 0 10) ≤ x8 then some (x5, h) else bd (f_X12_has x7 x8 h) (fun y1 h2 => (if y1 = 0 then rc x1 x2 x3 x4 x5 x6 x7 (x8 + (1 : Int32)) h2 else (if inb x1 32 = true then bd (R (x1 + (1 : Int32)) (x2 - (1 : Int32)) x3 (hsI h2 57 0 x1.toNatClampNeg x8)) (fun y3 h4 => rc x1 x2 x3 x4 (x5 + y3) x6 x7 (x8 + (1 : Int32)) h4) else none))))
def l_X12_fitsFrom_43 (R : Int32 → Int32 → Int32 → AH → Option (Int32 × AH)) : Nat → Int32 → Int32 → Int32 → Int32 → Int32 → Int32 → Int32 → Int32 → AH → Option (Int32 × AH)
  | 0 => fun _ _ _ _ _ _ _ _ _ => none
  | F + 1 => b_X12_fitsFrom_43 R (l_X12_fitsFrom_43 R F)
def c_X12_fitsFrom_70 (R : Int32 → Int32 → Int32 → AH → Option (Int32 × AH)) (rc : Int32 → Int32 → Int32 → Int32 → Int32 → Int32 → AH → Option (Int32 × AH)) (x1 : Int32) (x2 : Int32) (x3 : Int32) (x4 : Int32) (x5 : Int32) (x6 : Int32) (h : AH) : Option (Int32 × AH) :=
  rc x1 x2 x3 x4 x5 (x6 + (1 : Int32)) h
def b_X12_fitsFrom_24 (R : Int32 → Int32 → Int32 → AH → Option (Int32 × AH)) (rc : Int32 → Int32 → Int32 → Int32 → Int32 → Int32 → AH → Option (Int32 × AH)) (x1 : Int32) (x2 : Int32) (x3 : Int32) (x4 : Int32) (x5 : Int32) (x6 : Int32) (h : AH) : Option (Int32 × AH) :=
  (if (h.1 34 0 11) ≤ x6 then some (x5, h) else bd (f_X12_has x4 x6 h) (fun y1 h2 => (if y1 = 0 then bd (l_X12_fitsFrom_43 R FU x1 x2 x3 x4 x5 x6 (0 : Int32) (0 : Int32) h2) (fun v h => c_X12_fitsFrom_70 R rc x1 x2 x3 x4 v x6 h) else bd (f_X12_mayAsk_m_tried x6 x1 h2) (fun y3 h4 => bd (l_X12_fitsFrom_43 R FU x1 x2 x3 x4 x5 x6 y3 (0 : Int32) h4) (fun v h => c_X12_fitsFrom_70 R rc x1 x2 x3 x4 v x6 h)))))
def l_X12_fitsFrom_24 (R : Int32 → Int32 → Int32 → AH → Option (Int32 × AH)) : Nat → Int32 → Int32 → Int32 → Int32 → Int32 → Int32 → AH → Option (Int32 × AH)
  | 0 => fun _ _ _ _ _ _ _ => none
  | F + 1 => b_X12_fitsFrom_24 R (l_X12_fitsFrom_24 R F)
def c_X12_fitsFrom_72 (R : Int32 → Int32 → Int32 → AH → Option (Int32 × AH)) (x5 : Int32) (h : AH) : Option (Int32 × AH) :=
  some (x5, h)
def g_X12_fitsFrom (R : Int32 → Int32 → Int32 → AH → Option (Int32 × AH)) (x1 : Int32) (x2 : Int32) (x3 : Int32) (h : AH) : Option (Int32 × AH) :=
  (if x2 = 0 then (if inb (x1 - (1 : Int32)) 32 = true then (if (h.1 57 0 (x1 - (1 : Int32)).toNatClampNeg) = x3 then some ((1 : Int32), h) else some ((0 : Int32), h)) else none) else bd (f_X12_mayAnswer_m_tried x1 h) (fun y1 h2 => bd (l_X12_fitsFrom_24 R FU x1 x2 x3 y1 (0 : Int32) (0 : Int32) h2) (fun v h => c_X12_fitsFrom_72 R v h)))
def f_X12_fitsFrom : Nat → Int32 → Int32 → Int32 → AH → Option (Int32 × AH)
  | 0 => fun _ _ _ _ => none
  | D + 1 => g_X12_fitsFrom (f_X12_fitsFrom D)
def f_X12_fits (x1 : Int32) (x2 : Int32) (x3 : Int32) (h : AH) : Option (Int32 × AH) :=
  bd (f_X12_isClaim x1 h) (fun y1 h2 => (if y1 = 0 then some ((-1 : Int32), h2) else bd (f_X12_isClaim x2 h2) (fun y3 h4 => (if y3 = 0 then some ((-1 : Int32), h4) else bd (f_X12_in x3 (0 : Int32) (5 : Int32) h4) (fun y5 h6 => (if y5 = 0 then some ((-1 : Int32), h6) else bd (f_X12_fitsFrom 12 (1 : Int32) x3 x2 (hsI h6 57 0 (0 : Int32).toNatClampNeg x1)) (fun y7 h8 => some (y7, h8))))))))
def b_X2_shareByParts_4 (rc : Int32 → Int64 → Int32 → AH → Option (Int64 × AH)) (x1 : Int32) (x2 : Int64) (x4 : Int32) (h : AH) : Option (Int64 × AH) :=
  (if (h.1 12 0 5) ≤ x4 then some (x2, h) else (if inb x1 14 = true then bd (f_X11_has (h.1 16 0 x1.toNatClampNeg) x4 h) (fun y1 h2 => (if y1 = 0 then rc x1 (x2 + (0 : Int64)) (x4 + (1 : Int32)) h2 else (if inb x4 10 = true then rc x1 (x2 + (h2.2 31 0 x4.toNatClampNeg)) (x4 + (1 : Int32)) h2 else none))) else none))
def l_X2_shareByParts_4 : Nat → Int32 → Int64 → Int32 → AH → Option (Int64 × AH)
  | 0 => fun _ _ _ _ => none
  | F + 1 => b_X2_shareByParts_4 (l_X2_shareByParts_4 F)
def c_X2_shareByParts_28  (x2 : Int64) (h : AH) : Option (Int64 × AH) :=
  some (x2, h)
def f_X2_shareByParts (x1 : Int32) (h : AH) : Option (Int64 × AH) :=
  bd (l_X2_shareByParts_4 FU x1 (0 : Int64) (0 : Int32) h) (fun v h => c_X2_shareByParts_28 v h)
def b_X2_shareByReasons_12 (rc : Int32 → Int32 → Int64 → Int32 → AH → Option (Int64 × AH)) (x2 : Int32) (x3 : Int32) (x4 : Int64) (x6 : Int32) (h : AH) : Option (Int64 × AH) :=
  (if (h.1 12 0 6) ≤ x6 then some (x4, h) else (if inb x6 14 = true then bd (f_J6_bitCount_0f7a4 (h.1 16 0 x6.toNatClampNeg) h) (fun y1 h2 => bd (f_X11_has x2 x6 h2) (fun y3 h4 => (if y3 = 0 then rc x2 x3 x4 (x6 + (1 : Int32)) h4 else (if (x3 * y1) ≤ 0 then rc x2 x3 x4 (x6 + (1 : Int32)) h4 else (if (x3 * y1) = 0 then none else bd (f_X2_shareByParts x6 h4) (fun y5 h6 => rc x2 x3 (x4 + ((((72 : Int32) / (x3 * y1)).toInt64) * y5)) (x6 + (1 : Int32)) h6)))))) else none))
def l_X2_shareByReasons_12 : Nat → Int32 → Int32 → Int64 → Int32 → AH → Option (Int64 × AH)
  | 0 => fun _ _ _ _ _ => none
  | F + 1 => b_X2_shareByReasons_12 (l_X2_shareByReasons_12 F)
def c_X2_shareByReasons_45  (x4 : Int64) (h : AH) : Option (Int64 × AH) :=
  some (x4, h)
def f_X2_shareByReasons (x1 : Int32) (h : AH) : Option (Int64 × AH) :=
  bd (f_X0_usableFor x1 h) (fun y1 h2 => bd (f_J6_bitCount_0f7a4 y1 h2) (fun y3 h4 => bd (l_X2_shareByReasons_12 FU y1 y3 (0 : Int64) (0 : Int32) h4) (fun v h => c_X2_shareByReasons_45 v h)))
def b_X2_shareOfLoss_8 (rc : Int32 → Int32 → Int32 → Int64 → Int32 → AH → Option (Unit × AH)) (x1 : Int32) (x2 : Int32) (x3 : Int32) (x4 : Int64) (x6 : Int32) (h : AH) : Option (Unit × AH) :=
  (if (h.1 12 0 5) ≤ x6 then some ((), h) else bd (f_X11_bit x3 x6 h) (fun y1 h2 => (if inb x6 10 = true then rc x1 x2 x3 x4 (x6 + (1 : Int32)) (hsL h2 30 0 x6.toNatClampNeg y1.toInt64) else none)))
def l_X2_shareOfLoss_8 : Nat → Int32 → Int32 → Int32 → Int64 → Int32 → AH → Option (Unit × AH)
  | 0 => fun _ _ _ _ _ _ => none
  | F + 1 => b_X2_shareOfLoss_8 (l_X2_shareOfLoss_8 F)
def b_X2_shareOfLoss_42 (rc : Int32 → Int32 → Int32 → Int64 → Int32 → Int32 → AH → Option (Unit × AH)) (x1 : Int32) (x2 : Int32) (x3 : Int32) (x4 : Int64) (x6 : Int32) (x7 : Int32) (h : AH) : Option (Unit × AH) :=
  (if (h.1 12 0 5) ≤ x7 then some ((), h) else bd (f_X11_has x3 x7 h) (fun y1 h2 => (if y1 = 0 then bd (f_X2_shareByReasons x7 h2) (fun y3 h4 => (if inb x7 10 = true then rc x1 x2 x3 x4 x6 (x7 + (1 : Int32)) (hsL h4 30 0 x7.toNatClampNeg y3) else none)) else (if inb x7 10 = true then rc x1 x2 x3 x4 x6 (x7 + (1 : Int32)) (hsL h2 30 0 x7.toNatClampNeg x4) else none))))
def l_X2_shareOfLoss_42 : Nat → Int32 → Int32 → Int32 → Int64 → Int32 → Int32 → AH → Option (Unit × AH)
  | 0 => fun _ _ _ _ _ _ _ => none
  | F + 1 => b_X2_shareOfLoss_42 (l_X2_shareOfLoss_42 F)
def c_X2_shareOfLoss_62 (rc : Int32 → Int32 → Int32 → Int64 → Int32 → AH → Option (Unit × AH)) (x1 : Int32) (x2 : Int32) (x3 : Int32) (x4 : Int64) (x6 : Int32) (h : AH) : Option (Unit × AH) :=
  rc x1 x2 x3 x4 (x6 + (1 : Int32)) h
def b_X2_shareOfLoss_25 (rc : Int32 → Int32 → Int32 → Int64 → Int32 → AH → Option (Unit × AH)) (x1 : Int32) (x2 : Int32) (x3 : Int32) (x4 : Int64) (x6 : Int32) (h : AH) : Option (Unit × AH) :=
  (if x2 ≤ x6 then some ((), h) else bd (l_X2_shareOfLoss_42 FU x1 x2 x3 (x4 * (72 : Int64)) x6 (0 : Int32) (hcpL h 30 0 31 0 (0 : Int32).toNatClampNeg (0 : Int32).toNatClampNeg (10 : Int32).toNatClampNeg)) (fun v h => c_X2_shareOfLoss_62 rc x1 x2 x3 (x4 * (72 : Int64)) x6 h))
def l_X2_shareOfLoss_25 : Nat → Int32 → Int32 → Int32 → Int64 → Int32 → AH → Option (Unit × AH)
  | 0 => fun _ _ _ _ _ _ => none
  | F + 1 => b_X2_shareOfLoss_25 (l_X2_shareOfLoss_25 F)
def c_X2_shareOfLoss_64  (x1 : Int32) (h : AH) : Option (Int64 × AH) :=
  (if inb x1 10 = true then some ((h.2 30 0 x1.toNatClampNeg), h) else none)
def c_X2_shareOfLoss_23  (x1 : Int32) (x2 : Int32) (x3 : Int32) (x4 : Int64) (h : AH) : Option (Int64 × AH) :=
  bd (l_X2_shareOfLoss_25 FU x1 x2 x3 x4 (0 : Int32) h) (fun v h => c_X2_shareOfLoss_64 x1 h)
def f_X2_shareOfLoss (x1 : Int32) (x2 : Int32) (h : AH) : Option (Int64 × AH) :=
  bd (f_X0_lossBits  h) (fun y1 h2 => bd (l_X2_shareOfLoss_8 FU x1 x2 y1 (1 : Int64) (0 : Int32) h2) (fun v h => c_X2_shareOfLoss_23 x1 x2 y1 (1 : Int64) h))
def b_X11_commonDivisor_6 (rc : Int64 → Int64 → Int32 → AH → Option (Int64 × AH)) (x4 : Int64) (x6 : Int64) (x8 : Int32) (h : AH) : Option (Int64 × AH) :=
  (if (128 : Int32) ≤ x8 then some (x6, h) else (if (lg_cmp x4 (0 : Int64)) = 0 then some (x6, h) else (if x4 = 0 then none else rc (x6 - x6 / x4 * x4) x4 (x8 + (1 : Int32)) h)))
def l_X11_commonDivisor_6 : Nat → Int64 → Int64 → Int32 → AH → Option (Int64 × AH)
  | 0 => fun _ _ _ _ => none
  | F + 1 => b_X11_commonDivisor_6 (l_X11_commonDivisor_6 F)
def c_X11_commonDivisor_23  (x6 : Int64) (h : AH) : Option (Int64 × AH) :=
  (if (lg_cmp x6 (0 : Int64)) = 0 then some ((1 : Int64), h) else some (x6, h))
def f_X11_commonDivisor (x0 : Int64) (x2 : Int64) (h : AH) : Option (Int64 × AH) :=
  bd (l_X11_commonDivisor_6 FU x0 x2 (0 : Int32) h) (fun v h => c_X11_commonDivisor_23 v h)
def b_X11_odds_23 (rc : Int32 → Int32 → AH → Option (Unit × AH)) (x2 : Int32) (x3 : Int32) (h : AH) : Option (Unit × AH) :=
  (if x2 ≤ x3 then some ((), h) else rc x2 (x3 + (1 : Int32)) (hsL h 0 0 16 ((h.2 0 0 16) * (72 : Int64))))
def l_X11_odds_23 : Nat → Int32 → Int32 → AH → Option (Unit × AH)
  | 0 => fun _ _ _ => none
  | F + 1 => b_X11_odds_23 (l_X11_odds_23 F)
def c_X11_odds_34   (h : AH) : Option (Int32 × AH) :=
  bd (f_X11_commonDivisor (h.2 0 0 15) (h.2 0 0 16) h) (fun y1 h2 => (if y1 = 0 then none else (if y1 = 0 then none else some ((1 : Int32), (hsL (hsL h2 0 0 15 ((h2.2 0 0 15) / y1)) 0 0 16 (((hsL h2 0 0 15 ((h2.2 0 0 15) / y1)).2 0 0 16) / y1))))))
def f_X11_odds (x1 : Int32) (x2 : Int32) (h : AH) : Option (Int32 × AH) :=
  bd (f_X11_isClaim x1 h) (fun y1 h2 => (if y1 = 0 then some ((-1 : Int32), h2) else (if x2 < 0 then some ((-1 : Int32), h2) else (if x2 ≤ (6 : Int32) then bd (f_X2_shareOfLoss x1 x2 h2) (fun y3 h4 => bd (l_X11_odds_23 FU x2 (0 : Int32) (hsL (hsL h4 0 0 15 y3) 0 0 16 (1 : Int64))) (fun v h => c_X11_odds_34 h)) else some ((-1 : Int32), h2)))))
def b_X12_lossFrom_28 (R : Int32 → Int32 → Int64 → AH → Option (Int64 × AH)) (rc : Int32 → Int64 → Int32 → Int64 → Int32 → Int32 → AH → Option (Int64 × AH)) (x2 : Int32) (x3 : Int64) (x5 : Int32) (x6 : Int64) (x8 : Int32) (x9 : Int32) (h : AH) : Option (Int64 × AH) :=
  (if (h.1 34 0 10) ≤ x9 then some (x6, h) else bd (f_X12_has x5 x8 h) (fun y1 h2 => (if y1 = 0 then rc x2 x3 x5 x6 x8 (x9 + (1 : Int32)) h2 else (if inb x8 14 = true then bd (f_X12_has (h2.1 43 0 x8.toNatClampNeg) x9 h2) (fun y3 h4 => (if y3 = 0 then rc x2 x3 x5 x6 x8 (x9 + (1 : Int32)) h4 else bd (f_X12_bits x5 h4) (fun y5 h6 => (if inb x8 14 = true then bd (f_X12_bits (h6.1 43 0 x8.toNatClampNeg) h6) (fun y7 h8 => (if (y5 * y7).toInt64 = 0 then none else bd (R x9 (x2 - (1 : Int32)) (x3 / ((y5 * y7).toInt64)) h8) (fun y9 h10 => rc x2 x3 x5 (x6 + y9) x8 (x9 + (1 : Int32)) h10))) else none)))) else none))))
def l_X12_lossFrom_28 (R : Int32 → Int32 → Int64 → AH → Option (Int64 × AH)) : Nat → Int32 → Int64 → Int32 → Int64 → Int32 → Int32 → AH → Option (Int64 × AH)
  | 0 => fun _ _ _ _ _ _ _ => none
  | F + 1 => b_X12_lossFrom_28 R (l_X12_lossFrom_28 R F)
def c_X12_lossFrom_65 (R : Int32 → Int32 → Int64 → AH → Option (Int64 × AH)) (rc : Int32 → Int64 → Int32 → Int64 → Int32 → AH → Option (Int64 × AH)) (x2 : Int32) (x3 : Int64) (x5 : Int32) (x6 : Int64) (x8 : Int32) (h : AH) : Option (Int64 × AH) :=
  rc x2 x3 x5 x6 (x8 + (1 : Int32)) h
def b_X12_lossFrom_22 (R : Int32 → Int32 → Int64 → AH → Option (Int64 × AH)) (rc : Int32 → Int64 → Int32 → Int64 → Int32 → AH → Option (Int64 × AH)) (x2 : Int32) (x3 : Int64) (x5 : Int32) (x6 : Int64) (x8 : Int32) (h : AH) : Option (Int64 × AH) :=
  (if (h.1 34 0 11) ≤ x8 then some (x6, h) else bd (l_X12_lossFrom_28 R FU x2 x3 x5 x6 x8 (0 : Int32) h) (fun v h => c_X12_lossFrom_65 R rc x2 x3 x5 v x8 h))
def l_X12_lossFrom_22 (R : Int32 → Int32 → Int64 → AH → Option (Int64 × AH)) : Nat → Int32 → Int64 → Int32 → Int64 → Int32 → AH → Option (Int64 × AH)
  | 0 => fun _ _ _ _ _ _ => none
  | F + 1 => b_X12_lossFrom_22 R (l_X12_lossFrom_22 R F)
def c_X12_lossFrom_67 (R : Int32 → Int32 → Int64 → AH → Option (Int64 × AH)) (x6 : Int64) (h : AH) : Option (Int64 × AH) :=
  some (x6, h)
def g_X12_lossFrom (R : Int32 → Int32 → Int64 → AH → Option (Int64 × AH)) (x1 : Int32) (x2 : Int32) (x3 : Int64) (h : AH) : Option (Int64 × AH) :=
  bd (f_X12_isAtLoss x1 h) (fun y1 h2 => (if y1 = 0 then bd (f_X12_isEnd x1 h2) (fun y3 h4 => (if y3 = 0 then (if x2 = 0 then some ((0 : Int64), h4) else bd (f_X12_usableFor x1 h4) (fun y5 h6 => bd (l_X12_lossFrom_22 R FU x2 x3 y5 (0 : Int64) (0 : Int32) h6) (fun v h => c_X12_lossFrom_67 R v h))) else some ((0 : Int64), h4))) else some (x3, h2)))
def f_X12_lossFrom : Nat → Int32 → Int32 → Int64 → AH → Option (Int64 × AH)
  | 0 => fun _ _ _ _ => none
  | D + 1 => g_X12_lossFrom (f_X12_lossFrom D)
def b_X12_part_4 (rc : Int64 → Int64 → Int64 → Int64 → AH → Option (Int64 × AH)) (x1 : Int64) (x3 : Int64) (x5 : Int64) (x7 : Int64) (h : AH) : Option (Int64 × AH) :=
  (if (lg_cmp x7 (0 : Int64)) = 0 then some (x5, h) else (if x7 = 0 then none else rc x1 x3 x7 (x5 - x5 / x7 * x7) h))
def l_X12_part_4 : Nat → Int64 → Int64 → Int64 → Int64 → AH → Option (Int64 × AH)
  | 0 => fun _ _ _ _ _ => none
  | F + 1 => b_X12_part_4 (l_X12_part_4 F)
def c_X12_part_17  (x1 : Int64) (x3 : Int64) (x5 : Int64) (h : AH) : Option (Int32 × AH) :=
  (if x5 = 0 then none else (if x5 = 0 then none else some ((1 : Int32), (hsL (hsL h 34 0 3 (x1 / x5)) 34 0 4 (x3 / x5)))))
def f_X12_part (x1 : Int64) (x3 : Int64) (h : AH) : Option (Int32 × AH) :=
  bd (l_X12_part_4 FU x1 x3 x1 x3 h) (fun v h => c_X12_part_17 x1 x3 v h)
def b_X12_odds_15 (rc : Int32 → Int32 → Int64 → Int32 → AH → Option (Int64 × AH)) (x1 : Int32) (x2 : Int32) (x3 : Int64) (x5 : Int32) (h : AH) : Option (Int64 × AH) :=
  (if x2 ≤ x5 then some (x3, h) else rc x1 x2 (x3 * (72 : Int64)) (x5 + (1 : Int32)) h)
def l_X12_odds_15 : Nat → Int32 → Int32 → Int64 → Int32 → AH → Option (Int64 × AH)
  | 0 => fun _ _ _ _ _ => none
  | F + 1 => b_X12_odds_15 (l_X12_odds_15 F)
def c_X12_odds_24  (x1 : Int32) (x2 : Int32) (x3 : Int64) (h : AH) : Option (Int32 × AH) :=
  bd (f_X12_lossFrom 12 x1 x2 x3 h) (fun y1 h2 => bd (f_X12_part y1 x3 h2) (fun y3 h4 => some (y3, h4)))
def f_X12_odds (x1 : Int32) (x2 : Int32) (h : AH) : Option (Int32 × AH) :=
  bd (f_X12_isClaim x1 h) (fun y1 h2 => (if y1 = 0 then some ((-1 : Int32), h2) else bd (f_X12_in x2 (0 : Int32) (6 : Int32) h2) (fun y3 h4 => (if y3 = 0 then some ((-1 : Int32), h4) else bd (l_X12_odds_15 FU x1 x2 (1 : Int64) (0 : Int32) h4) (fun v h => c_X12_odds_24 x1 x2 v h)))))
def b_X2_drawn_14 (rc : Int32 → Int64 → Int32 → AH → Option (Int32 × AH)) (x0 : Int32) (x4 : Int64) (x6 : Int32) (h : AH) : Option (Int32 × AH) :=
  (if (32 : Int32) ≤ x6 then some ((0 : Int32), h) else bd (f_X11_has x0 x6 h) (fun y1 h2 => (if y1 = 0 then rc x0 x4 (x6 + (1 : Int32)) h2 else (if (lg_cmp x4 (0 : Int64)) = 0 then some (x6, h2) else rc x0 (x4 - (1 : Int64)) (x6 + (1 : Int32)) h2))))
def l_X2_drawn_14 : Nat → Int32 → Int64 → Int32 → AH → Option (Int32 × AH)
  | 0 => fun _ _ _ _ => none
  | F + 1 => b_X2_drawn_14 (l_X2_drawn_14 F)
def f_X2_drawn (x0 : Int32) (x1 : Int64) (h : AH) : Option (Int32 × AH) :=
  bd (f_J6_bitCount_0f7a4 x0 h) (fun y1 h2 => (if y1 = 0 then l_X2_drawn_14 FU x0 (0 : Int64) (0 : Int32) h2 else (if y1.toInt64 = 0 then none else l_X2_drawn_14 FU x0 (x1 - x1 / y1.toInt64 * y1.toInt64) (0 : Int32) h2)))
def b_X2_goOn_5 (rc : Int32 → Int64 → Int32 → AH → Option (Int32 × AH)) (x1 : Int32) (x3 : Int64) (x5 : Int32) (h : AH) : Option (Int32 × AH) :=
  (if x1 ≤ x5 then some (x1, h) else bd (f_X7_barredBits 3 h) (fun y1 h2 => bd (f_X7_place 3 h2) (fun y3 h4 => bd (f_X0_openReasons y3 y1 h4) (fun y5 h6 => (if y5 = 0 then some (x5, h6) else bd (f_X2_drawn y5 ((x3 * (48271 : Int64)) - (x3 * (48271 : Int64)) / (2147483647 : Int64) * (2147483647 : Int64)) h6) (fun y7 h8 => (if inb y7 14 = true then bd (f_X2_drawn ((h8.1 16 0 y7.toNatClampNeg) &&& (y1 ^^^ (-1 : Int32))) (((x3 * (48271 : Int64)) - (x3 * (48271 : Int64)) / (2147483647 : Int64) * (2147483647 : Int64)) / (64 : Int64)) h8) (fun y9 h10 => bd (f_X7_goTo 3 y9 h10) (fun _ h12 => rc x1 ((x3 * (48271 : Int64)) - (x3 * (48271 : Int64)) / (2147483647 : Int64) * (2147483647 : Int64)) (x5 + (1 : Int32)) h12)) else none)))))))
def l_X2_goOn_5 : Nat → Int32 → Int64 → Int32 → AH → Option (Int32 × AH)
  | 0 => fun _ _ _ _ => none
  | F + 1 => b_X2_goOn_5 (l_X2_goOn_5 F)
def f_X2_goOn (x1 : Int32) (x2 : Int32) (h : AH) : Option (Int32 × AH) :=
  l_X2_goOn_5 FU x1 x2.toInt64 (0 : Int32) h
def f_X11_night (x1 : Int32) (x2 : Int32) (h : AH) : Option (Int32 × AH) :=
  (if x1 < (1 : Int32) then some ((-1 : Int32), h) else (if (20 : Int32) < x1 then some ((-1 : Int32), h) else (if x2 < (1 : Int32) then some ((-1 : Int32), h) else (if x2 < (2147483647 : Int32) then bd (f_X7_hasEvening 3 h) (fun y1 h2 => (if y1 = 0 then some ((-4 : Int32), h2) else bd (f_X7_answers 3 h2) (fun y3 h4 => (if (y3 + x1) ≤ (39 : Int32) then bd (f_X2_goOn x1 x2 h4) (fun y5 h6 => some (y5, h6)) else some ((-2 : Int32), h4))))) else some ((-1 : Int32), h)))))
def b_X12_pick_4 (rc : Int32 → Int32 → Int32 → AH → Option (Int32 × AH)) (x0 : Int32) (x2 : Int32) (x3 : Int32) (h : AH) : Option (Int32 × AH) :=
  bd (f_X12_has x0 x3 h) (fun y1 h2 => (if y1 = 0 then bd (f_X12_has x0 x3 h2) (fun y3 h4 => (if y3 = 0 then rc x0 (x2 - (0 : Int32)) (x3 + (1 : Int32)) h4 else rc x0 (x2 - (1 : Int32)) (x3 + (1 : Int32)) h4)) else (if x2 ≤ 0 then some (x3, h2) else bd (f_X12_has x0 x3 h2) (fun y5 h6 => (if y5 = 0 then rc x0 (x2 - (0 : Int32)) (x3 + (1 : Int32)) h6 else rc x0 (x2 - (1 : Int32)) (x3 + (1 : Int32)) h6)))))
def l_X12_pick_4 : Nat → Int32 → Int32 → Int32 → AH → Option (Int32 × AH)
  | 0 => fun _ _ _ _ => none
  | F + 1 => b_X12_pick_4 (l_X12_pick_4 F)
def c_X12_pick_22  (x3 : Int32) (h : AH) : Option (Int32 × AH) :=
  some (x3, h)
def f_X12_pick (x0 : Int32) (x1 : Int32) (h : AH) : Option (Int32 × AH) :=
  bd (l_X12_pick_4 FU x0 x1 (0 : Int32) h) (fun v h => c_X12_pick_22 v h)
def b_X12_night_30 (rc : Int32 → Int64 → Int32 → AH → Option (Int32 × AH)) (x1 : Int32) (x3 : Int64) (x5 : Int32) (h : AH) : Option (Int32 × AH) :=
  (if x1 ≤ x5 then some (x5, h) else bd (f_X12_mayAnswer_m_askedOf (h.1 34 0 27) h) (fun y1 h2 => (if y1 = 0 then some (x5, h2) else bd (f_X12_mayAnswer_m_askedOf (h2.1 34 0 27) h2) (fun y3 h4 => bd (f_X12_bits y3 h4) (fun y5 h6 => (if y5.toInt64 = 0 then none else bd (f_X12_pick y3 (((((48271 : Int64) * x3) - ((48271 : Int64) * x3) / (2147483647 : Int64) * (2147483647 : Int64)) - (((48271 : Int64) * x3) - ((48271 : Int64) * x3) / (2147483647 : Int64) * (2147483647 : Int64)) / y5.toInt64 * y5.toInt64).toInt32) h6) (fun y7 h8 => bd (f_X12_mayAsk_m_askedOf y7 (h8.1 34 0 27) h8) (fun y9 h10 => bd (f_X12_bits y9 h10) (fun y11 h12 => (if y11.toInt64 = 0 then none else bd (f_X12_pick y9 ((((((48271 : Int64) * x3) - ((48271 : Int64) * x3) / (2147483647 : Int64) * (2147483647 : Int64)) / (64 : Int64)) - ((((48271 : Int64) * x3) - ((48271 : Int64) * x3) / (2147483647 : Int64) * (2147483647 : Int64)) / (64 : Int64)) / y11.toInt64 * y11.toInt64).toInt32) h12) (fun y13 h14 => (if inb (h10.1 34 0 27) 41 = true then rc x1 (((48271 : Int64) * x3) - ((48271 : Int64) * x3) / (2147483647 : Int64) * (2147483647 : Int64)) (x5 + (1 : Int32)) (hsI (hsI h14 49 0 (h10.1 34 0 27).toNatClampNeg y13) 34 0 27 (((hsI h14 49 0 (h10.1 34 0 27).toNatClampNeg y13).1 34 0 27) + (1 : Int32))) else none))))))))))))
def l_X12_night_30 : Nat → Int32 → Int64 → Int32 → AH → Option (Int32 × AH)
  | 0 => fun _ _ _ _ => none
  | F + 1 => b_X12_night_30 (l_X12_night_30 F)
def c_X12_night_93  (x5 : Int32) (h : AH) : Option (Int32 × AH) :=
  some (x5, h)
def f_X12_night (x1 : Int32) (x2 : Int32) (h : AH) : Option (Int32 × AH) :=
  bd (f_X12_in x1 (1 : Int32) (20 : Int32) h) (fun y1 h2 => (if y1 = 0 then some ((-1 : Int32), h2) else bd (f_X12_in x2 (1 : Int32) (2147483646 : Int32) h2) (fun y3 h4 => (if y3 = 0 then some ((-1 : Int32), h4) else (if (h4.1 34 0 27) = 0 then some ((-4 : Int32), h4) else bd (f_X12_answerMany  h4) (fun y5 h6 => (if (y5 + x1) ≤ (39 : Int32) then bd (l_X12_night_30 FU x1 x2.toInt64 (0 : Int32) h6) (fun v h => c_X12_night_93 v h) else some ((-2 : Int32), h6))))))))
def f_X11_asked  (h : AH) : Option (Int32 × AH) :=
  some ((h.1 0 0 14), h)
def f_X12_asked  (h : AH) : Option (Int32 × AH) :=
  some ((h.1 34 0 2), h)
def f_X11_upper  (h : AH) : Option (Int64 × AH) :=
  some ((h.2 0 0 15), h)
def f_X12_upper  (h : AH) : Option (Int64 × AH) :=
  some ((h.2 34 0 3), h)
def f_X11_lower  (h : AH) : Option (Int64 × AH) :=
  some ((h.2 0 0 16), h)
def f_X12_lower  (h : AH) : Option (Int64 × AH) :=
  some ((h.2 34 0 4), h)
def b_X11_rowsThere_4 (rc : Int32 → Int32 → AH → Option (Int32 × AH)) (x1 : Int32) (x2 : Int32) (h : AH) : Option (Int32 × AH) :=
  (if (6 : Int32) ≤ x2 then some (x1, h) else (if inb x2 6 = true then bd (f_X5_isMissing (x2.toNatClampNeg) h) (fun y1 h2 => (if y1 = 0 then rc (x1 + (1 : Int32)) (x2 + (1 : Int32)) h2 else rc (x1 + (0 : Int32)) (x2 + (1 : Int32)) h2)) else none))
def l_X11_rowsThere_4 : Nat → Int32 → Int32 → AH → Option (Int32 × AH)
  | 0 => fun _ _ _ => none
  | F + 1 => b_X11_rowsThere_4 (l_X11_rowsThere_4 F)
def c_X11_rowsThere_21  (x1 : Int32) (h : AH) : Option (Int32 × AH) :=
  some (x1, h)
def f_X11_rowsThere  (h : AH) : Option (Int32 × AH) :=
  bd (l_X11_rowsThere_4 FU (0 : Int32) (0 : Int32) h) (fun v h => c_X11_rowsThere_21 v h)
def b_X11_textsThere_4 (rc : Int32 → Int32 → AH → Option (Int32 × AH)) (x1 : Int32) (x2 : Int32) (h : AH) : Option (Int32 × AH) :=
  (if (4 : Int32) ≤ x2 then some (x1, h) else (if inb x2 4 = true then bd (f_X9_isMissing (x2.toNatClampNeg) h) (fun y1 h2 => (if y1 = 0 then rc (x1 + (1 : Int32)) (x2 + (1 : Int32)) h2 else rc (x1 + (0 : Int32)) (x2 + (1 : Int32)) h2)) else none))
def l_X11_textsThere_4 : Nat → Int32 → Int32 → AH → Option (Int32 × AH)
  | 0 => fun _ _ _ => none
  | F + 1 => b_X11_textsThere_4 (l_X11_textsThere_4 F)
def c_X11_textsThere_21  (x1 : Int32) (h : AH) : Option (Int32 × AH) :=
  some (x1, h)
def f_X11_textsThere  (h : AH) : Option (Int32 × AH) :=
  bd (l_X11_textsThere_4 FU (0 : Int32) (0 : Int32) h) (fun v h => c_X11_textsThere_21 v h)
def b_X11_imagesThere_4 (rc : Int32 → Int32 → AH → Option (Int32 × AH)) (x1 : Int32) (x2 : Int32) (h : AH) : Option (Int32 × AH) :=
  (if (3 : Int32) ≤ x2 then some (x1, h) else (if inb x2 3 = true then (if (h.1 8 (x2.toNatClampNeg) 6) = 0 then rc (x1 + (0 : Int32)) (x2 + (1 : Int32)) h else rc (x1 + (1 : Int32)) (x2 + (1 : Int32)) h) else none))
def l_X11_imagesThere_4 : Nat → Int32 → Int32 → AH → Option (Int32 × AH)
  | 0 => fun _ _ _ => none
  | F + 1 => b_X11_imagesThere_4 (l_X11_imagesThere_4 F)
def c_X11_imagesThere_21  (x1 : Int32) (h : AH) : Option (Int32 × AH) :=
  some (x1, h)
def f_X11_imagesThere  (h : AH) : Option (Int32 × AH) :=
  bd (l_X11_imagesThere_4 FU (0 : Int32) (0 : Int32) h) (fun v h => c_X11_imagesThere_21 v h)
def f_X11_howMany (x1 : Int32) (h : AH) : Option (Int32 × AH) :=
  (if x1 = 0 then some ((h.1 12 0 5), h) else (if x1 = 1 then some ((h.1 12 0 6), h) else (if x1 = 2 then bd (f_X7_answers 3 h) (fun y1 h2 => some (y1, h2)) else (if x1 = 3 then bd (f_J6_bitCount_0f7a4 (h.1 8 3 3) h) (fun y3 h4 => some (y3, h4)) else (if x1 = 4 then bd (f_J6_bitCount_0f7a4 (h.1 8 3 4) h) (fun y5 h6 => some (y5, h6)) else (if x1 = 5 then bd (f_X6_bitsOf 0 (1 : Int32) h) (fun y7 h8 => bd (f_J6_bitCount_0f7a4 y7 h8) (fun y9 h10 => some (y9, h10))) else (if x1 = 6 then bd (f_X11_rowsThere  h) (fun y11 h12 => some (y11, h12)) else (if x1 = 7 then bd (f_X11_textsThere  h) (fun y13 h14 => some (y13, h14)) else bd (f_X11_imagesThere  h) (fun y15 h16 => some (y15, h16))))))))))
def f_X11_count (x1 : Int32) (h : AH) : Option (Int32 × AH) :=
  (if x1 < 0 then some ((-1 : Int32), h) else (if x1 < (9 : Int32) then bd (f_X11_howMany x1 h) (fun y1 h2 => some (y1, h2)) else some ((-1 : Int32), h)))
def b_X12_counted_4 (rc : Int32 → Int32 → Int32 → AH → Option (Int32 × AH)) (x1 : Int32) (x2 : Int32) (x3 : Int32) (h : AH) : Option (Int32 × AH) :=
  (if (h.1 34 0 10) ≤ x3 then some (x2, h) else (if x1 = (5 : Int32) then bd (f_X12_isEnd x3 h) (fun y1 h2 => (if y1 = 0 then rc x1 (x2 + (0 : Int32)) (x3 + (1 : Int32)) h2 else rc x1 (x2 + (1 : Int32)) (x3 + (1 : Int32)) h2)) else rc x1 (x2 + (0 : Int32)) (x3 + (1 : Int32)) h))
def l_X12_counted_4 : Nat → Int32 → Int32 → Int32 → AH → Option (Int32 × AH)
  | 0 => fun _ _ _ _ => none
  | F + 1 => b_X12_counted_4 (l_X12_counted_4 F)
def b_X12_counted_25 (rc : Int32 → Int32 → Int32 → AH → Option (Int32 × AH)) (x1 : Int32) (x2 : Int32) (x3 : Int32) (h : AH) : Option (Int32 × AH) :=
  (if (6 : Int32) ≤ x3 then some (x2, h) else (if x1 = (6 : Int32) then (if inb x3 6 = true then (if (h.1 36 0 x3.toNatClampNeg) < 0 then rc x1 (x2 + (0 : Int32)) (x3 + (1 : Int32)) h else rc x1 (x2 + (1 : Int32)) (x3 + (1 : Int32)) h) else none) else rc x1 (x2 + (0 : Int32)) (x3 + (1 : Int32)) h))
def l_X12_counted_25 : Nat → Int32 → Int32 → Int32 → AH → Option (Int32 × AH)
  | 0 => fun _ _ _ _ => none
  | F + 1 => b_X12_counted_25 (l_X12_counted_25 F)
def b_X12_counted_46 (rc : Int32 → Int32 → Int32 → AH → Option (Int32 × AH)) (x1 : Int32) (x2 : Int32) (x3 : Int32) (h : AH) : Option (Int32 × AH) :=
  (if (4 : Int32) ≤ x3 then some (x2, h) else (if x1 = (7 : Int32) then (if inb x3 4 = true then (if (h.1 39 0 x3.toNatClampNeg) < 0 then rc x1 (x2 + (0 : Int32)) (x3 + (1 : Int32)) h else rc x1 (x2 + (1 : Int32)) (x3 + (1 : Int32)) h) else none) else rc x1 (x2 + (0 : Int32)) (x3 + (1 : Int32)) h))
def l_X12_counted_46 : Nat → Int32 → Int32 → Int32 → AH → Option (Int32 × AH)
  | 0 => fun _ _ _ _ => none
  | F + 1 => b_X12_counted_46 (l_X12_counted_46 F)
def b_X12_counted_67 (rc : Int32 → Int32 → Int32 → AH → Option (Int32 × AH)) (x1 : Int32) (x2 : Int32) (x3 : Int32) (h : AH) : Option (Int32 × AH) :=
  (if (3 : Int32) ≤ x3 then some (x2, h) else (if x1 = (8 : Int32) then (if inb x3 3 = true then (if (h.1 50 0 x3.toNatClampNeg) = 0 then rc x1 (x2 + (0 : Int32)) (x3 + (1 : Int32)) h else rc x1 (x2 + (1 : Int32)) (x3 + (1 : Int32)) h) else none) else rc x1 (x2 + (0 : Int32)) (x3 + (1 : Int32)) h))
def l_X12_counted_67 : Nat → Int32 → Int32 → Int32 → AH → Option (Int32 × AH)
  | 0 => fun _ _ _ _ => none
  | F + 1 => b_X12_counted_67 (l_X12_counted_67 F)
def c_X12_counted_86  (x1 : Int32) (x2 : Int32) (h : AH) : Option (Int32 × AH) :=
  (if x1 = 0 then some ((h.1 34 0 10), h) else (if x1 = 1 then some ((h.1 34 0 11), h) else (if x1 = 2 then bd (f_X12_answerMany  h) (fun y1 h2 => some (y1, h2)) else (if x1 = 3 then bd (f_X12_bits (h.1 34 0 16) h) (fun y3 h4 => some (y3, h4)) else (if x1 = 4 then bd (f_X12_bits (h.1 34 0 17) h) (fun y5 h6 => some (y5, h6)) else some (x2, h))))))
def c_X12_counted_65  (x1 : Int32) (x2 : Int32) (h : AH) : Option (Int32 × AH) :=
  bd (l_X12_counted_67 FU x1 x2 (0 : Int32) h) (fun v h => c_X12_counted_86 x1 v h)
def c_X12_counted_44  (x1 : Int32) (x2 : Int32) (h : AH) : Option (Int32 × AH) :=
  bd (l_X12_counted_46 FU x1 x2 (0 : Int32) h) (fun v h => c_X12_counted_65 x1 v h)
def c_X12_counted_23  (x1 : Int32) (x2 : Int32) (h : AH) : Option (Int32 × AH) :=
  bd (l_X12_counted_25 FU x1 x2 (0 : Int32) h) (fun v h => c_X12_counted_44 x1 v h)
def f_X12_counted (x1 : Int32) (h : AH) : Option (Int32 × AH) :=
  bd (l_X12_counted_4 FU x1 (0 : Int32) (0 : Int32) h) (fun v h => c_X12_counted_23 x1 v h)
def f_X12_count (x1 : Int32) (h : AH) : Option (Int32 × AH) :=
  bd (f_X12_in x1 (0 : Int32) (8 : Int32) h) (fun y1 h2 => (if y1 = 0 then some ((-1 : Int32), h2) else bd (f_X12_counted x1 h2) (fun y3 h4 => some (y3, h4))))
def f_X11_finding  (h : AH) : Option (Int32 × AH) :=
  some ((h.1 0 0 13), h)
def f_X12_finding  (h : AH) : Option (Int32 × AH) :=
  some ((h.1 34 0 0), h)
def f_X11_findings (x1 : Int32) (h : AH) : Option (Int32 × AH) :=
  (if x1 < (1 : Int32) then some ((-1 : Int32), h) else (if x1 ≤ (5 : Int32) then (if inb x1 6 = true then some ((h.1 33 0 x1.toNatClampNeg), h) else none) else some ((-1 : Int32), h)))
def f_X12_findings (x1 : Int32) (h : AH) : Option (Int32 × AH) :=
  bd (f_X12_in x1 (1 : Int32) (5 : Int32) h) (fun y1 h2 => (if y1 = 0 then some ((-1 : Int32), h2) else (if inb x1 6 = true then some ((h2.1 35 0 x1.toNatClampNeg), h2) else none)))
def b_X11_withFacts_11 (rc : Int64 → Int32 → Int32 → AH → Option (Int64 × AH)) (x3 : Int64) (x5 : Int32) (x6 : Int32) (h : AH) : Option (Int64 × AH) :=
  (if (5 : Int32) ≤ x6 then some (x3, h) else bd (f_X11_factOfClaim x5 x6 h) (fun y1 h2 => rc (((31 : Int64) * x3) + y1.toInt64) x5 (x6 + (1 : Int32)) h2))
def l_X11_withFacts_11 : Nat → Int64 → Int32 → Int32 → AH → Option (Int64 × AH)
  | 0 => fun _ _ _ _ => none
  | F + 1 => b_X11_withFacts_11 (l_X11_withFacts_11 F)
def c_X11_withFacts_26 (rc : Int64 → Int32 → AH → Option (Int64 × AH)) (x3 : Int64) (x5 : Int32) (h : AH) : Option (Int64 × AH) :=
  rc x3 (x5 + (1 : Int32)) h
def b_X11_withFacts_4 (rc : Int64 → Int32 → AH → Option (Int64 × AH)) (x3 : Int64) (x5 : Int32) (h : AH) : Option (Int64 × AH) :=
  (if (h.1 12 0 5) ≤ x5 then some (x3, h) else bd (l_X11_withFacts_11 FU x3 x5 (0 : Int32) h) (fun v h => c_X11_withFacts_26 rc v x5 h))
def l_X11_withFacts_4 : Nat → Int64 → Int32 → AH → Option (Int64 × AH)
  | 0 => fun _ _ _ => none
  | F + 1 => b_X11_withFacts_4 (l_X11_withFacts_4 F)
def b_X11_withFacts_37 (rc : Int64 → Int32 → Int32 → AH → Option (Int64 × AH)) (x3 : Int64) (x5 : Int32) (x6 : Int32) (h : AH) : Option (Int64 × AH) :=
  (if (3 : Int32) ≤ x6 then some (x3, h) else bd (f_X11_factOfReason x5 x6 h) (fun y1 h2 => rc (((31 : Int64) * x3) + y1.toInt64) x5 (x6 + (1 : Int32)) h2))
def l_X11_withFacts_37 : Nat → Int64 → Int32 → Int32 → AH → Option (Int64 × AH)
  | 0 => fun _ _ _ _ => none
  | F + 1 => b_X11_withFacts_37 (l_X11_withFacts_37 F)
def c_X11_withFacts_52 (rc : Int64 → Int32 → AH → Option (Int64 × AH)) (x3 : Int64) (x5 : Int32) (h : AH) : Option (Int64 × AH) :=
  rc x3 (x5 + (1 : Int32)) h
def b_X11_withFacts_30 (rc : Int64 → Int32 → AH → Option (Int64 × AH)) (x3 : Int64) (x5 : Int32) (h : AH) : Option (Int64 × AH) :=
  (if (h.1 12 0 6) ≤ x5 then some (x3, h) else bd (l_X11_withFacts_37 FU x3 x5 (0 : Int32) h) (fun v h => c_X11_withFacts_52 rc v x5 h))
def l_X11_withFacts_30 : Nat → Int64 → Int32 → AH → Option (Int64 × AH)
  | 0 => fun _ _ _ => none
  | F + 1 => b_X11_withFacts_30 (l_X11_withFacts_30 F)
def c_X11_withFacts_54  (x3 : Int64) (h : AH) : Option (Int64 × AH) :=
  some (x3, h)
def c_X11_withFacts_28  (x3 : Int64) (h : AH) : Option (Int64 × AH) :=
  bd (l_X11_withFacts_30 FU x3 (0 : Int32) h) (fun v h => c_X11_withFacts_54 v h)
def f_X11_withFacts (x1 : Int64) (h : AH) : Option (Int64 × AH) :=
  bd (l_X11_withFacts_4 FU x1 (0 : Int32) h) (fun v h => c_X11_withFacts_28 v h)
def b_X11_withEvening_14 (rc : Int64 → Int32 → AH → Option (Int64 × AH)) (x3 : Int64) (x5 : Int32) (h : AH) : Option (Int64 × AH) :=
  (if (h.1 8 3 2) ≤ x5 then some (x3, h) else (if inb x5 40 = true then rc (((31 : Int64) * x3) + ((h.1 10 3 x5.toNatClampNeg).toInt64)) (x5 + (1 : Int32)) h else none))
def l_X11_withEvening_14 : Nat → Int64 → Int32 → AH → Option (Int64 × AH)
  | 0 => fun _ _ _ => none
  | F + 1 => b_X11_withEvening_14 (l_X11_withEvening_14 F)
def c_X11_withEvening_32  (x3 : Int64) (h : AH) : Option (Int64 × AH) :=
  some (x3, h)
def f_X11_withEvening (x1 : Int64) (h : AH) : Option (Int64 × AH) :=
  bd (f_X7_hasEvening 3 h) (fun y1 h2 => (if y1 = 0 then some ((((31 : Int64) * x1) + (-1 : Int64)), h2) else bd (l_X11_withEvening_14 FU x1 (0 : Int32) h2) (fun v h => c_X11_withEvening_32 v h)))
def b_X11_withRow_10 (rc : Nat → Int64 → Int32 → AH → Option (Int64 × AH)) (r2 : Nat) (x3 : Int64) (x5 : Int32) (h : AH) : Option (Int64 × AH) :=
  (if (h.1 2 r2 1) ≤ x5 then some (x3, h) else (if inb x5 40 = true then rc r2 (((31 : Int64) * x3) + ((h.1 3 r2 x5.toNatClampNeg).toInt64)) (x5 + (1 : Int32)) h else none))
def l_X11_withRow_10 : Nat → Nat → Int64 → Int32 → AH → Option (Int64 × AH)
  | 0 => fun _ _ _ _ => none
  | F + 1 => b_X11_withRow_10 (l_X11_withRow_10 F)
def c_X11_withRow_26  (x3 : Int64) (h : AH) : Option (Int64 × AH) :=
  some (x3, h)
def f_X11_withRow (x0 : Int64) (r2 : Nat) (h : AH) : Option (Int64 × AH) :=
  bd (l_X11_withRow_10 FU r2 (((31 : Int64) * x0) + ((h.1 2 r2 1).toInt64)) (0 : Int32) h) (fun v h => c_X11_withRow_26 v h)
def b_X11_withText_10 (rc : Nat → Int64 → Int32 → AH → Option (Int64 × AH)) (r2 : Nat) (x3 : Int64) (x5 : Int32) (h : AH) : Option (Int64 × AH) :=
  (if (h.1 5 r2 1) ≤ x5 then some (x3, h) else (if inb x5 80 = true then rc r2 (((31 : Int64) * x3) + ((h.1 6 r2 x5.toNatClampNeg).toInt64)) (x5 + (1 : Int32)) h else none))
def l_X11_withText_10 : Nat → Nat → Int64 → Int32 → AH → Option (Int64 × AH)
  | 0 => fun _ _ _ _ => none
  | F + 1 => b_X11_withText_10 (l_X11_withText_10 F)
def c_X11_withText_26  (x3 : Int64) (h : AH) : Option (Int64 × AH) :=
  some (x3, h)
def f_X11_withText (x0 : Int64) (r2 : Nat) (h : AH) : Option (Int64 × AH) :=
  bd (l_X11_withText_10 FU r2 (((31 : Int64) * x0) + ((h.1 5 r2 1).toInt64)) (0 : Int32) h) (fun v h => c_X11_withText_26 v h)
def b_X11_digest_4 (rc : Int64 → Int32 → AH → Option (Int64 × AH)) (x1 : Int64) (x3 : Int32) (h : AH) : Option (Int64 × AH) :=
  (if (9 : Int32) ≤ x3 then some (x1, h) else bd (f_X11_howMany x3 h) (fun y1 h2 => rc (((31 : Int64) * x1) + y1.toInt64) (x3 + (1 : Int32)) h2))
def l_X11_digest_4 : Nat → Int64 → Int32 → AH → Option (Int64 × AH)
  | 0 => fun _ _ _ => none
  | F + 1 => b_X11_digest_4 (l_X11_digest_4 F)
def b_X11_digest_37 (rc : Int64 → Int32 → AH → Option (Int64 × AH)) (x1 : Int64) (x3 : Int32) (h : AH) : Option (Int64 × AH) :=
  (if (3 : Int32) ≤ x3 then some (x1, h) else (if inb x3 3 = true then (if (h.1 8 (x3.toNatClampNeg) 6) = 0 then rc (((31 : Int64) * x1) + ((-1 : Int32).toInt64)) (x3 + (1 : Int32)) h else (if inb x3 3 = true then bd (f_X7_answers (x3.toNatClampNeg) h) (fun y1 h2 => rc (((31 : Int64) * x1) + y1.toInt64) (x3 + (1 : Int32)) h2) else none)) else none))
def l_X11_digest_37 : Nat → Int64 → Int32 → AH → Option (Int64 × AH)
  | 0 => fun _ _ _ => none
  | F + 1 => b_X11_digest_37 (l_X11_digest_37 F)
def b_X11_digest_63 (rc : Int64 → Int32 → AH → Option (Int64 × AH)) (x1 : Int64) (x3 : Int32) (h : AH) : Option (Int64 × AH) :=
  (if (6 : Int32) ≤ x3 then some (x1, h) else (if inb x3 6 = true then bd (f_X11_withRow x1 (x3.toNatClampNeg) h) (fun y1 h2 => rc y1 (x3 + (1 : Int32)) h2) else none))
def l_X11_digest_63 : Nat → Int64 → Int32 → AH → Option (Int64 × AH)
  | 0 => fun _ _ _ => none
  | F + 1 => b_X11_digest_63 (l_X11_digest_63 F)
def b_X11_digest_77 (rc : Int64 → Int32 → AH → Option (Int64 × AH)) (x1 : Int64) (x3 : Int32) (h : AH) : Option (Int64 × AH) :=
  (if (4 : Int32) ≤ x3 then some (x1, h) else (if inb x3 4 = true then bd (f_X11_withText x1 (x3.toNatClampNeg) h) (fun y1 h2 => rc y1 (x3 + (1 : Int32)) h2) else none))
def l_X11_digest_77 : Nat → Int64 → Int32 → AH → Option (Int64 × AH)
  | 0 => fun _ _ _ => none
  | F + 1 => b_X11_digest_77 (l_X11_digest_77 F)
def c_X11_digest_89  (x1 : Int64) (h : AH) : Option (Int64 × AH) :=
  some (x1, h)
def c_X11_digest_75  (x1 : Int64) (h : AH) : Option (Int64 × AH) :=
  bd (l_X11_digest_77 FU x1 (0 : Int32) h) (fun v h => c_X11_digest_89 v h)
def c_X11_digest_61  (x1 : Int64) (h : AH) : Option (Int64 × AH) :=
  bd (l_X11_digest_63 FU x1 (0 : Int32) h) (fun v h => c_X11_digest_75 v h)
def c_X11_digest_18  (x1 : Int64) (h : AH) : Option (Int64 × AH) :=
  bd (f_X11_withFacts (((31 : Int64) * x1) + ((h.1 8 3 5).toInt64)) h) (fun y1 h2 => bd (f_X11_withEvening y1 h2) (fun y3 h4 => bd (l_X11_digest_37 FU y3 (0 : Int32) h4) (fun v h => c_X11_digest_61 v h)))
def f_X11_digest  (h : AH) : Option (Int64 × AH) :=
  bd (l_X11_digest_4 FU (17 : Int64) (0 : Int32) h) (fun v h => c_X11_digest_18 v h)
def f_X12_mix (x1 : Int64) (h : AH) : Option (Unit × AH) :=
  some ((), (hsL h 34 0 39 (((31 : Int64) * (h.2 34 0 39)) + x1)))
def b_X12_mixRoom_13 (rc : Int32 → Int32 → AH → Option (Unit × AH)) (x1 : Int32) (x2 : Int32) (h : AH) : Option (Unit × AH) :=
  (if (5 : Int32) ≤ x2 then some ((), h) else bd (f_X12_claimTells x1 x2 h) (fun y1 h2 => bd (f_X12_mix y1.toInt64 h2) (fun _ h4 => rc x1 (x2 + (1 : Int32)) h4)))
def l_X12_mixRoom_13 : Nat → Int32 → Int32 → AH → Option (Unit × AH)
  | 0 => fun _ _ _ => none
  | F + 1 => b_X12_mixRoom_13 (l_X12_mixRoom_13 F)
def c_X12_mixRoom_25 (rc : Int32 → AH → Option (Unit × AH)) (x1 : Int32) (h : AH) : Option (Unit × AH) :=
  rc (x1 + (1 : Int32)) h
def b_X12_mixRoom_7 (rc : Int32 → AH → Option (Unit × AH)) (x1 : Int32) (h : AH) : Option (Unit × AH) :=
  (if (h.1 34 0 10) ≤ x1 then some ((), h) else bd (l_X12_mixRoom_13 FU x1 (0 : Int32) h) (fun v h => c_X12_mixRoom_25 rc x1 h))
def l_X12_mixRoom_7 : Nat → Int32 → AH → Option (Unit × AH)
  | 0 => fun _ _ => none
  | F + 1 => b_X12_mixRoom_7 (l_X12_mixRoom_7 F)
def b_X12_mixRoom_35 (rc : Int32 → Int32 → AH → Option (Unit × AH)) (x1 : Int32) (x2 : Int32) (h : AH) : Option (Unit × AH) :=
  (if (3 : Int32) ≤ x2 then some ((), h) else bd (f_X12_reasonTells x1 x2 h) (fun y1 h2 => bd (f_X12_mix y1.toInt64 h2) (fun _ h4 => rc x1 (x2 + (1 : Int32)) h4)))
def l_X12_mixRoom_35 : Nat → Int32 → Int32 → AH → Option (Unit × AH)
  | 0 => fun _ _ _ => none
  | F + 1 => b_X12_mixRoom_35 (l_X12_mixRoom_35 F)
def c_X12_mixRoom_47 (rc : Int32 → AH → Option (Unit × AH)) (x1 : Int32) (h : AH) : Option (Unit × AH) :=
  rc (x1 + (1 : Int32)) h
def b_X12_mixRoom_29 (rc : Int32 → AH → Option (Unit × AH)) (x1 : Int32) (h : AH) : Option (Unit × AH) :=
  (if (h.1 34 0 11) ≤ x1 then some ((), h) else bd (l_X12_mixRoom_35 FU x1 (0 : Int32) h) (fun v h => c_X12_mixRoom_47 rc x1 h))
def l_X12_mixRoom_29 : Nat → Int32 → AH → Option (Unit × AH)
  | 0 => fun _ _ => none
  | F + 1 => b_X12_mixRoom_29 (l_X12_mixRoom_29 F)
def b_X12_mixRoom_51 (rc : Int32 → AH → Option (Unit × AH)) (x1 : Int32) (h : AH) : Option (Unit × AH) :=
  (if (h.1 34 0 27) ≤ x1 then some ((), h) else (if inb x1 41 = true then bd (f_X12_mix ((h.1 49 0 x1.toNatClampNeg).toInt64) h) (fun _ h2 => rc (x1 + (1 : Int32)) h2) else none))
def l_X12_mixRoom_51 : Nat → Int32 → AH → Option (Unit × AH)
  | 0 => fun _ _ => none
  | F + 1 => b_X12_mixRoom_51 (l_X12_mixRoom_51 F)
def b_X12_mixRoom_72 (rc : Int32 → AH → Option (Unit × AH)) (x1 : Int32) (h : AH) : Option (Unit × AH) :=
  (if (3 : Int32) ≤ x1 then some ((), h) else (if inb x1 3 = true then (if (h.1 50 0 x1.toNatClampNeg) = 0 then bd (f_X12_mix (-1 : Int64) h) (fun _ h2 => rc (x1 + (1 : Int32)) h2) else (if inb x1 3 = true then bd (f_X12_greater (0 : Int32) ((h.1 51 0 x1.toNatClampNeg) - (1 : Int32)) h) (fun y3 h4 => bd (f_X12_mix y3.toInt64 h4) (fun _ h6 => rc (x1 + (1 : Int32)) h6)) else none)) else none))
def l_X12_mixRoom_72 : Nat → Int32 → AH → Option (Unit × AH)
  | 0 => fun _ _ => none
  | F + 1 => b_X12_mixRoom_72 (l_X12_mixRoom_72 F)
def c_X12_mixRoom_95   (h : AH) : Option (Unit × AH) :=
  some ((), h)
def c_X12_mixRoom_64   (h : AH) : Option (Unit × AH) :=
  (if (h.1 34 0 27) = 0 then bd (f_X12_mix (-1 : Int64) h) (fun _ h2 => bd (l_X12_mixRoom_72 FU (0 : Int32) h2) (fun v h => c_X12_mixRoom_95 h)) else bd (l_X12_mixRoom_72 FU (0 : Int32) h) (fun v h => c_X12_mixRoom_95 h))
def c_X12_mixRoom_49   (h : AH) : Option (Unit × AH) :=
  bd (l_X12_mixRoom_51 FU (0 : Int32) h) (fun v h => c_X12_mixRoom_64 h)
def c_X12_mixRoom_27   (h : AH) : Option (Unit × AH) :=
  bd (l_X12_mixRoom_29 FU (0 : Int32) h) (fun v h => c_X12_mixRoom_49 h)
def f_X12_mixRoom  (h : AH) : Option (Unit × AH) :=
  bd (f_X12_mix ((h.1 34 0 18).toInt64) h) (fun _ h2 => bd (l_X12_mixRoom_7 FU (0 : Int32) h2) (fun v h => c_X12_mixRoom_27 h))
def b_X12_digest_5 (rc : Int32 → AH → Option (Unit × AH)) (x1 : Int32) (h : AH) : Option (Unit × AH) :=
  (if (9 : Int32) ≤ x1 then some ((), h) else bd (f_X12_counted x1 h) (fun y1 h2 => bd (f_X12_mix y1.toInt64 h2) (fun _ h4 => rc (x1 + (1 : Int32)) h4)))
def l_X12_digest_5 : Nat → Int32 → AH → Option (Unit × AH)
  | 0 => fun _ _ => none
  | F + 1 => b_X12_digest_5 (l_X12_digest_5 F)
def b_X12_digest_32 (rc : Int32 → Int32 → AH → Option (Unit × AH)) (x1 : Int32) (x2 : Int32) (h : AH) : Option (Unit × AH) :=
  (if inb x1 6 = true then (if (h.1 36 0 x1.toNatClampNeg) ≤ x2 then some ((), h) else bd (f_X12_rowAt x1 x2 h) (fun y1 h2 => bd (f_X12_mix y1.toInt64 h2) (fun _ h4 => rc x1 (x2 + (1 : Int32)) h4))) else none)
def l_X12_digest_32 : Nat → Int32 → Int32 → AH → Option (Unit × AH)
  | 0 => fun _ _ _ => none
  | F + 1 => b_X12_digest_32 (l_X12_digest_32 F)
def c_X12_digest_47 (rc : Int32 → AH → Option (Unit × AH)) (x1 : Int32) (h : AH) : Option (Unit × AH) :=
  rc (x1 + (1 : Int32)) h
def b_X12_digest_20 (rc : Int32 → AH → Option (Unit × AH)) (x1 : Int32) (h : AH) : Option (Unit × AH) :=
  (if (6 : Int32) ≤ x1 then some ((), h) else (if inb x1 6 = true then bd (f_X12_mix ((h.1 36 0 x1.toNatClampNeg).toInt64) h) (fun _ h2 => bd (l_X12_digest_32 FU x1 (0 : Int32) h2) (fun v h => c_X12_digest_47 rc x1 h)) else none))
def l_X12_digest_20 : Nat → Int32 → AH → Option (Unit × AH)
  | 0 => fun _ _ => none
  | F + 1 => b_X12_digest_20 (l_X12_digest_20 F)
def b_X12_digest_63 (rc : Int32 → Int32 → AH → Option (Unit × AH)) (x1 : Int32) (x2 : Int32) (h : AH) : Option (Unit × AH) :=
  (if inb x1 4 = true then (if (h.1 39 0 x1.toNatClampNeg) ≤ x2 then some ((), h) else bd (f_X12_byteAt x1 x2 h) (fun y1 h2 => bd (f_X12_mix y1.toInt64 h2) (fun _ h4 => rc x1 (x2 + (1 : Int32)) h4))) else none)
def l_X12_digest_63 : Nat → Int32 → Int32 → AH → Option (Unit × AH)
  | 0 => fun _ _ _ => none
  | F + 1 => b_X12_digest_63 (l_X12_digest_63 F)
def c_X12_digest_78 (rc : Int32 → AH → Option (Unit × AH)) (x1 : Int32) (h : AH) : Option (Unit × AH) :=
  rc (x1 + (1 : Int32)) h
def b_X12_digest_51 (rc : Int32 → AH → Option (Unit × AH)) (x1 : Int32) (h : AH) : Option (Unit × AH) :=
  (if (4 : Int32) ≤ x1 then some ((), h) else (if inb x1 4 = true then bd (f_X12_mix ((h.1 39 0 x1.toNatClampNeg).toInt64) h) (fun _ h2 => bd (l_X12_digest_63 FU x1 (0 : Int32) h2) (fun v h => c_X12_digest_78 rc x1 h)) else none))
def l_X12_digest_51 : Nat → Int32 → AH → Option (Unit × AH)
  | 0 => fun _ _ => none
  | F + 1 => b_X12_digest_51 (l_X12_digest_51 F)
def c_X12_digest_80   (h : AH) : Option (Int64 × AH) :=
  some ((h.2 34 0 39), h)
def c_X12_digest_49   (h : AH) : Option (Int64 × AH) :=
  bd (l_X12_digest_51 FU (0 : Int32) h) (fun v h => c_X12_digest_80 h)
def c_X12_digest_16   (h : AH) : Option (Int64 × AH) :=
  bd (f_X12_mixRoom  h) (fun _ h2 => bd (l_X12_digest_20 FU (0 : Int32) h2) (fun v h => c_X12_digest_49 h))
def f_X12_digest  (h : AH) : Option (Int64 × AH) :=
  bd (l_X12_digest_5 FU (0 : Int32) (hsL h 34 0 39 (17 : Int64))) (fun v h => c_X12_digest_16 h)
