/-! ===== count ===== -/
theorem cnt_c {P Q : Nat → Bool} : ∀ n, (∀ i, i < n → P i = Q i) → cnt P n = cnt Q n
  | 0, _ => rfl
  | n + 1, h => by
    show cnt P n + (if P n = true then 1 else 0) = cnt Q n + (if Q n = true then 1 else 0)
    rw [cnt_c n (fun i hi => h i (by omega)), h n (by omega)]
theorem cnt_s1 {P : Nat → Bool} {j : Nat} (h : P j = true) : nI (cnt P j) + 1 = nI (cnt P (j + 1)) := by
  show _ = nI (cnt P j + (if P j = true then 1 else 0))
  rw [if_pos h, nI_1]
theorem cnt_s0 {P : Nat → Bool} {j : Nat} (h : ¬ P j = true) : nI (cnt P j) + 0 = nI (cnt P (j + 1)) := by
  show _ = nI (cnt P j + (if P j = true then 1 else 0))
  rw [if_neg h]
  exact Int32.add_zero _
theorem bc_EN {p : PD} (v : PV p) : bc (EN p) = nI (cnt (isE p) p.n) := by
  have hn := v.n10
  have hs : sub (EN p) p.n := sub_or (sub_KB v _) (sub_KB v _)
  rw [bc_eq (n := p.n) (by omega) hs, cnt14 (n := p.n) (by omega) hs]
  congr 1
  apply cnt_c
  intro i hi
  rw [btEN v, decide_eq_true hi]
  rfl
def hasR (h : AH) (r : Nat) : Bool := !decide (h.1 36 0 r = -1)
def hasT (h : AH) (r : Nat) : Bool := !decide (h.1 39 0 r = -1)
def hasI (h : AH) (r : Nat) : Bool := !decide (h.1 50 0 r = 0)
theorem x_rowsThere {hx hm : AH} (b : Bk hx hm) : f_X11_rowsThere hx = some (nI (cnt (hasR hm) 6), hx) := by
  unfold f_X11_rowsThere
  have := lp0 (fun F j => l_X11_rowsThere_4 F (nI (cnt (hasR hm) j)) (nI j) hx) 6 (some (nI (cnt (hasR hm) 6), hx)) (by
    intro F j hj
    show b_X11_rowsThere_4 (l_X11_rowsThere_4 F) _ (nI j) hx = _
    unfold b_X11_rowsThere_4
    rw [if_neg (show ¬ (6 : Int32) ≤ nI j from nI_ge (b := 6) hj (by omega)), if_pos (inb_nI hj (by omega)), nI_cl (by omega), x_isMiss, bd_some, if10, (b.2.1 j hj).1, nI_1]
    by_cases e : hm.1 36 0 j = -1
    · rw [if_pos e, cnt_s0 (by unfold hasR; rw [e]; decide)]
    · rw [if_neg e, cnt_s1 (by unfold hasR; rw [decide_eq_false e]; rfl)]) (by
    intro F
    show b_X11_rowsThere_4 (l_X11_rowsThere_4 F) _ (nI 6) hx = _
    unfold b_X11_rowsThere_4
    rw [if_pos (show (6 : Int32) ≤ nI 6 from Int32.le_refl _)]) (by omega)
  rw [nI_0] at this
  show bd (l_X11_rowsThere_4 FU 0 0 hx) _ = _
  have h0 : nI (cnt (hasR hm) 0) = 0 := rfl
  rw [h0] at this
  rw [this]
  rfl
theorem x_textsThere {hx hm : AH} (b : Bk hx hm) : f_X11_textsThere hx = some (nI (cnt (hasT hm) 4), hx) := by
  unfold f_X11_textsThere
  have := lp0 (fun F j => l_X11_textsThere_4 F (nI (cnt (hasT hm) j)) (nI j) hx) 4 (some (nI (cnt (hasT hm) 4), hx)) (by
    intro F j hj
    show b_X11_textsThere_4 (l_X11_textsThere_4 F) _ (nI j) hx = _
    unfold b_X11_textsThere_4
    rw [if_neg (show ¬ (4 : Int32) ≤ nI j from nI_ge (b := 4) hj (by omega)), if_pos (inb_nI hj (by omega)), nI_cl (by omega), x_isMissT, bd_some, if10, (b.2.2 j hj).1, nI_1]
    by_cases e : hm.1 39 0 j = -1
    · rw [if_pos e, cnt_s0 (by unfold hasT; rw [e]; decide)]
    · rw [if_neg e, cnt_s1 (by unfold hasT; rw [decide_eq_false e]; rfl)]) (by
    intro F
    show b_X11_textsThere_4 (l_X11_textsThere_4 F) _ (nI 4) hx = _
    unfold b_X11_textsThere_4
    rw [if_pos (show (4 : Int32) ≤ nI 4 from Int32.le_refl _)]) (by omega)
  rw [nI_0] at this
  show bd (l_X11_textsThere_4 FU 0 0 hx) _ = _
  have h0 : nI (cnt (hasT hm) 0) = 0 := rfl
  rw [h0] at this
  rw [this]
  rfl
theorem RD.im {hx hm : AH} {p : PD} {s : SD} (d : RD hx hm p s) {c : Nat} (hc : c < 3) : hx.1 8 c 6 = hm.1 50 0 c ∧ (hm.1 50 0 c = 0 ∨ hm.1 50 0 c = 1) := by
  rcases d.2.2.2.2.2.2 c hc with ⟨a, b⟩ | ⟨a, b, -⟩
  · rw [a, b]; exact ⟨rfl, Or.inl rfl⟩
  · rw [a, b]; exact ⟨rfl, Or.inr rfl⟩
theorem x_imagesThere {hx hm : AH} {p : PD} {s : SD} (d : RD hx hm p s) : f_X11_imagesThere hx = some (nI (cnt (hasI hm) 3), hx) := by
  unfold f_X11_imagesThere
  have := lp0 (fun F j => l_X11_imagesThere_4 F (nI (cnt (hasI hm) j)) (nI j) hx) 3 (some (nI (cnt (hasI hm) 3), hx)) (by
    intro F j hj
    show b_X11_imagesThere_4 (l_X11_imagesThere_4 F) _ (nI j) hx = _
    unfold b_X11_imagesThere_4
    rw [if_neg (show ¬ (3 : Int32) ≤ nI j from nI_ge (b := 3) hj (by omega)), if_pos (inb_nI hj (by omega)), nI_cl (by omega), (d.im hj).1, nI_1]
    by_cases e : hm.1 50 0 j = 0
    · rw [if_pos e, cnt_s0 (by unfold hasI; rw [e]; decide)]
    · rw [if_neg e, cnt_s1 (by unfold hasI; rw [decide_eq_false e]; rfl)]) (by
    intro F
    show b_X11_imagesThere_4 (l_X11_imagesThere_4 F) _ (nI 3) hx = _
    unfold b_X11_imagesThere_4
    rw [if_pos (show (3 : Int32) ≤ nI 3 from Int32.le_refl _)]) (by omega)
  rw [nI_0] at this
  show bd (l_X11_imagesThere_4 FU 0 0 hx) _ = _
  have h0 : nI (cnt (hasI hm) 0) = 0 := rfl
  rw [h0] at this
  rw [this]
  rfl
/-- how many of what -/
def hwm (hm : AH) (p : PD) (s : SD) (w : Nat) : Int32 := if w = 0 then nI p.n else if w = 1 then nI p.m else if w = 2 then nI (s.ts - 1) else if w = 3 then bc s.aw else if w = 4 then bc s.kn else if w = 5 then nI (cnt (isE p) p.n) else if w = 6 then nI (cnt (hasR hm) 6) else if w = 7 then nI (cnt (hasT hm) 4) else nI (cnt (hasI hm) 3)
theorem x_howMany {hx hm : AH} {p : PD} {s : SD} (b : Bk hx hm) (d : RD hx hm p s) {w : Nat} (hw : w < 9) : f_X11_howMany (nI w) hx = some (hwm hm p s w, hx) := by
  unfold f_X11_howMany
  simp only [x_rowsThere b, x_textsThere b, x_imagesThere d, bd_some, d.x.n, d.x.m, x_answers d.x, d.x.aw, d.x.kn, x_bc, x_bits1 d.x, bc_EN d.1]
  match w, hw with
  | 0, _ => rfl
  | 1, _ => rfl
  | 2, _ => rfl
  | 3, _ => rfl
  | 4, _ => rfl
  | 5, _ => rfl
  | 6, _ => rfl
  | 7, _ => rfl
  | 8, _ => rfl
