/-! ===== costs: the least way to ends, by three measures ===== -/
def wst (p : PD) (c : Nat → Nat) (k : Nat) : Nat → Nat
  | 0 => 0
  | j + 1 => if bt (p.pa k) j = true then max (wst p c k j) (c j) else wst p c k j
def smp (p : PD) (c : Nat → Nat) (k : Nat) : Nat → Nat
  | 0 => 0
  | j + 1 => if bt (p.pa k) j = true then smp p c k j + c j else smp p c k j
theorem wst_ge {p : PD} {c : Nat → Nat} {k y : Nat} (hy : bt (p.pa k) y = true) : ∀ j, y < j → c y ≤ wst p c k j
  | 0, h => by omega
  | j + 1, h => by
    show c y ≤ if bt (p.pa k) j = true then max (wst p c k j) (c j) else wst p c k j
    by_cases e : y = j
    · subst e; rw [if_pos hy]; omega
    · have := wst_ge (c := c) hy j (by omega)
      split <;> omega
theorem wst_le {p : PD} {c : Nat → Nat} {k B : Nat} : ∀ j, (∀ y, y < j → bt (p.pa k) y = true → c y ≤ B) → wst p c k j ≤ B
  | 0, _ => Nat.zero_le _
  | j + 1, h => by
    show (if bt (p.pa k) j = true then max (wst p c k j) (c j) else wst p c k j) ≤ B
    have h1 := wst_le (c := c) j (fun y hy => h y (by omega))
    by_cases e : bt (p.pa k) j = true
    · have := h j (by omega) e
      rw [if_pos e]; omega
    · rw [if_neg e]; exact h1
theorem wst_lt {p : PD} {c : Nat → Nat} {k B : Nat} (hB : 0 < B) {j : Nat} (h : ∀ y, y < j → bt (p.pa k) y = true → c y < B) : wst p c k j < B := by
  have := wst_le (p := p) (c := c) (k := k) (B := B - 1) j (fun y h1 h2 => by have := h y h1 h2; omega)
  omega
theorem wst_mono {p : PD} {c d : Nat → Nat} {k : Nat} {j : Nat} (h : ∀ y, y < j → c y ≤ d y) : wst p c k j ≤ wst p d k j :=
  wst_le j (fun y hy hb => Nat.le_trans (h y hy) (wst_ge hb j hy))
theorem smp_mono {p : PD} {c d : Nat → Nat} {k : Nat} : ∀ j, (∀ y, y < j → c y ≤ d y) → smp p c k j ≤ smp p d k j
  | 0, _ => Nat.le_refl _
  | j + 1, h => by
    have h1 := smp_mono (p := p) (k := k) j (fun y hy => h y (by omega))
    have h2 := h j (by omega)
    show (if bt (p.pa k) j = true then smp p c k j + c j else smp p c k j) ≤ (if bt (p.pa k) j = true then smp p d k j + d j else smp p d k j)
    split <;> omega
theorem smp_ge {p : PD} {c : Nat → Nat} {k y : Nat} (hy : bt (p.pa k) y = true) : ∀ j, y < j → c y ≤ smp p c k j
  | 0, h => by omega
  | j + 1, h => by
    show c y ≤ if bt (p.pa k) j = true then smp p c k j + c j else smp p c k j
    by_cases e : y = j
    · subst e; rw [if_pos hy]; omega
    · have := smp_ge (c := c) hy j (by omega)
      split <;> omega
theorem smp_le {p : PD} {c : Nat → Nat} {k B : Nat} : ∀ j, (∀ y, y < j → c y ≤ B) → smp p c k j ≤ j * B
  | 0, _ => Nat.zero_le _
  | j + 1, h => by
    have h1 := smp_le (p := p) (k := k) (c := c) j (fun y hy => h y (by omega))
    have h2 := h j (by omega)
    show (if bt (p.pa k) j = true then smp p c k j + c j else smp p c k j) ≤ (j + 1) * B
    rw [Nat.add_mul, Nat.one_mul]
    split <;> omega
/-- what a reason costs: by length, by answers, by doubt -/
def fk (p : PD) (s : SD) (me k : Nat) (c : Nat → Nat) : Nat := if wst p c k p.n < 1000000 then (if me = 0 then 1 + wst p c k p.n else if me = 1 then min 999 (1 + smp p c k p.n) else max (wst p c k p.n) (9 - s.su k)) else 1000000
theorem fk_le (p : PD) (s : SD) (me k : Nat) (c : Nat → Nat) : fk p s me k c ≤ 1000000 := by
  unfold fk
  split
  · split
    · omega
    · split <;> omega
  · omega
theorem fk_mono {p : PD} {s : SD} {me k : Nat} {c d : Nat → Nat} (h : ∀ y, y < p.n → c y ≤ d y) : fk p s me k c ≤ fk p s me k d := by
  have h1 := wst_mono (p := p) (k := k) h
  have h2 := smp_mono (p := p) (k := k) p.n h
  have h3 := fk_le p s me k c
  by_cases e : wst p d k p.n < 1000000
  · unfold fk
    rw [if_pos e, if_pos (show wst p c k p.n < 1000000 by omega)]
    split
    · omega
    · split <;> omega
  · have : fk p s me k d = 1000000 := by unfold fk; rw [if_neg e]
    omega
theorem fk_congr {p : PD} {s : SD} {me k : Nat} {c d : Nat → Nat} (h : ∀ y, y < p.n → bt (p.pa k) y = true → c y = d y) : fk p s me k c = fk p s me k d := by
  have h1 : ∀ j, j ≤ p.n → wst p c k j = wst p d k j ∧ smp p c k j = smp p d k j := by
    intro j
    induction j with
    | zero => exact fun _ => ⟨rfl, rfl⟩
    | succ j ih =>
      intro hj
      obtain ⟨a, b⟩ := ih (by omega)
      show (if bt (p.pa k) j = true then max (wst p c k j) (c j) else wst p c k j) = (if bt (p.pa k) j = true then max (wst p d k j) (d j) else wst p d k j) ∧ (if bt (p.pa k) j = true then smp p c k j + c j else smp p c k j) = (if bt (p.pa k) j = true then smp p d k j + d j else smp p d k j)
      by_cases e : bt (p.pa k) j = true
      · rw [if_pos e, if_pos e, if_pos e, if_pos e, a, b, h j (by omega) e]; exact ⟨rfl, rfl⟩
      · rw [if_neg e, if_neg e, if_neg e, if_neg e]; exact ⟨a, b⟩
  unfold fk
  rw [(h1 p.n (Nat.le_refl _)).1, (h1 p.n (Nat.le_refl _)).2]
theorem fk_far {p : PD} {s : SD} {me k y : Nat} {c : Nat → Nat} (hy : y < p.n) (hb : bt (p.pa k) y = true) (h : 1000000 ≤ c y) : fk p s me k c = 1000000 := by
  have := wst_ge (p := p) (c := c) hb p.n hy
  unfold fk
  rw [if_neg (by omega)]
theorem fk_fin {p : PD} {s : SD} {me k : Nat} {c : Nat → Nat} (h : ∀ y, y < p.n → bt (p.pa k) y = true → c y < 999999) : fk p s me k c < 1000000 := by
  have := wst_lt (p := p) (k := k) (c := c) (B := 999999) (by omega) h
  unfold fk
  rw [if_pos (by omega)]
  split
  · omega
  · split <;> omega
theorem fk_sup {p : PD} {s : SD} {me k y : Nat} {c : Nat → Nat} (hc : ∀ y, y < p.n → c y ≤ 1000000) (h1 : me = 1 → ∀ y, y < p.n → c y < 1000000 → c y ≤ 999) (hy : y < p.n) (hb : bt (p.pa k) y = true) : c y ≤ fk p s me k c := by
  have a := wst_ge (p := p) (c := c) hb p.n hy
  have b := smp_ge (p := p) (c := c) hb p.n hy
  have d := hc y hy
  unfold fk
  by_cases e : wst p c k p.n < 1000000
  · rw [if_pos e]
    split
    · omega
    · split
      · rename_i e1
        have := h1 e1 y hy (by omega)
        omega
      · omega
  · rw [if_neg e]; omega
/-- what the first j reasons make of it -/
def red (p : PD) (s : SD) (me : Nat) (c : Nat → Nat) (x : Nat) : Nat → Nat
  | 0 => c x
  | j + 1 => if p.co j = x ∧ us p s j = true then min (red p s me c x j) (fk p s me j c) else red p s me c x j
theorem red_le {p : PD} {s : SD} {me : Nat} {c : Nat → Nat} {x : Nat} : ∀ j, red p s me c x j ≤ c x
  | 0 => Nat.le_refl _
  | j + 1 => by
    have := red_le (p := p) (s := s) (me := me) (c := c) (x := x) j
    show (if p.co j = x ∧ us p s j = true then min (red p s me c x j) (fk p s me j c) else red p s me c x j) ≤ _
    split
    · exact Nat.le_trans (Nat.min_le_left _ _) this
    · exact this
theorem red_lef {p : PD} {s : SD} {me : Nat} {c : Nat → Nat} {x k : Nat} (h1 : p.co k = x) (h2 : us p s k = true) : ∀ j, k < j → red p s me c x j ≤ fk p s me k c
  | 0, h => by omega
  | j + 1, h => by
    show (if p.co j = x ∧ us p s j = true then min (red p s me c x j) (fk p s me j c) else red p s me c x j) ≤ _
    by_cases e : k = j
    · subst e; rw [if_pos ⟨h1, h2⟩]; exact Nat.min_le_right _ _
    · have := red_lef (me := me) (c := c) h1 h2 j (by omega)
      split
      · exact Nat.le_trans (Nat.min_le_left _ _) this
      · exact this
theorem red_cs (p : PD) (s : SD) (me : Nat) (c : Nat → Nat) (x : Nat) : ∀ j, red p s me c x j = c x ∨ ∃ k, k < j ∧ p.co k = x ∧ us p s k = true ∧ red p s me c x j = fk p s me k c
  | 0 => Or.inl rfl
  | j + 1 => by
    have ih := red_cs p s me c x j
    show (if p.co j = x ∧ us p s j = true then min (red p s me c x j) (fk p s me j c) else red p s me c x j) = c x ∨ ∃ k, k < j + 1 ∧ p.co k = x ∧ us p s k = true ∧ (if p.co j = x ∧ us p s j = true then min (red p s me c x j) (fk p s me j c) else red p s me c x j) = fk p s me k c
    by_cases e : p.co j = x ∧ us p s j = true
    · rw [if_pos e]
      by_cases f : red p s me c x j ≤ fk p s me j c
      · rw [show min (red p s me c x j) (fk p s me j c) = red p s me c x j by omega]
        rcases ih with h | ⟨k, a, b⟩
        · exact Or.inl h
        · exact Or.inr ⟨k, by omega, b⟩
      · rw [show min (red p s me c x j) (fk p s me j c) = fk p s me j c by omega]
        exact Or.inr ⟨j, by omega, e.1, e.2, rfl⟩
    · rw [if_neg e]
      rcases ih with h | ⟨k, a, b⟩
      · exact Or.inl h
      · exact Or.inr ⟨k, by omega, b⟩
theorem red_mono {p : PD} {s : SD} {me : Nat} {c d : Nat → Nat} (h : ∀ y, y < p.n → c y ≤ d y) {x : Nat} (hx : x < p.n) : ∀ j, red p s me c x j ≤ red p s me d x j
  | 0 => h x hx
  | j + 1 => by
    have ih := red_mono (s := s) (me := me) h hx j
    have h2 := fk_mono (s := s) (me := me) (k := j) h
    show (if p.co j = x ∧ us p s j = true then min (red p s me c x j) (fk p s me j c) else red p s me c x j) ≤ (if p.co j = x ∧ us p s j = true then min (red p s me d x j) (fk p s me j d) else red p s me d x j)
    split <;> omega
noncomputable def Jc (p : PD) (s : SD) (me : Nat) : Nat → Nat → Nat
  | 0 => fun x => if p.ki x = 1 ∧ bt (SN p s) x = true then 0 else 1000000
  | r + 1 => fun x => red p s me (Jc p s me r) x p.m
theorem Jc_s (p : PD) (s : SD) (me r x : Nat) : Jc p s me (r + 1) x = red p s me (Jc p s me r) x p.m := rfl
theorem Jc_dn (p : PD) (s : SD) (me r x : Nat) : Jc p s me (r + 1) x ≤ Jc p s me r x := red_le _
theorem Jc_far (p : PD) (s : SD) (me x : Nat) : ∀ r, Jc p s me r x ≤ 1000000
  | 0 => by show (if _ then _ else _) ≤ _; split <;> omega
  | r + 1 => Nat.le_trans (Jc_dn p s me r x) (Jc_far p s me x r)
theorem Jc_999 (p : PD) (s : SD) (x : Nat) : ∀ r, Jc p s 1 r x < 1000000 → Jc p s 1 r x ≤ 999
  | 0 => by
    show (if _ then _ else _) < _ → (if _ then _ else _) ≤ _
    split <;> omega
  | r + 1 => by
    intro h
    have ih := Jc_999 p s x r
    rw [Jc_s] at h ⊢
    rcases red_cs p s 1 (Jc p s 1 r) x p.m with e | ⟨k, -, -, -, e⟩
    · rw [e] at h ⊢; exact ih h
    · rw [e] at h ⊢
      unfold fk at h ⊢
      split at h
      · rename_i q
        rw [if_pos q, if_neg (by omega), if_pos rfl]; omega
      · omega
theorem Jc_sup (p : PD) (s : SD) (me r : Nat) {k y : Nat} (hy : y < p.n) (hb : bt (p.pa k) y = true) : Jc p s me r y ≤ fk p s me k (Jc p s me r) :=
  fk_sup (fun y _ => Jc_far p s me y r) (fun e y _ => by subst e; exact Jc_999 p s y r) hy hb
theorem Jc_chg (p : PD) (s : SD) (me : Nat) : ∀ r x, x < p.n → Jc p s me (r + 1) x < Jc p s me r x → r + 1 ≤ cnt (fun y => decide (Jc p s me (r + 1) y ≤ Jc p s me (r + 1) x)) p.n
  | 0, x, hx, h => by
    have := cnt_lt (P := fun _ => false) (Q := fun y => decide (Jc p s me 1 y ≤ Jc p s me 1 x)) (fun _ z => by contradiction) p.n x hx rfl (decide_eq_true (Nat.le_refl _))
    show 1 ≤ cnt (fun y => decide (Jc p s me 1 y ≤ Jc p s me 1 x)) p.n
    omega
  | r + 1, x, hx, h => by
    rcases red_cs p s me (Jc p s me (r + 1)) x p.m with e | ⟨k, hk, h1, h2, e⟩
    · rw [Jc_s, e] at h; omega
    · have h3 : Jc p s me (r + 1) x ≤ fk p s me k (Jc p s me r) := red_lef h1 h2 p.m hk
      have e' : Jc p s me (r + 1 + 1) x = fk p s me k (Jc p s me (r + 1)) := e
      have : ∃ y, y < p.n ∧ bt (p.pa k) y = true ∧ Jc p s me (r + 1) y < Jc p s me r y := by
        apply Classical.byContradiction
        intro z
        have : fk p s me k (Jc p s me (r + 1)) = fk p s me k (Jc p s me r) := fk_congr (fun y hy hb => by
          apply Classical.byContradiction
          intro q
          have := Jc_dn p s me r y
          exact z ⟨y, hy, hb, by omega⟩)
        omega
      obtain ⟨y, hy, hb, hl⟩ := this
      have ih := Jc_chg p s me r y hy hl
      have sp := Jc_sup p s me (r + 1) hy hb
      have := cnt_lt (P := fun z => decide (Jc p s me (r + 1) z ≤ Jc p s me (r + 1) y)) (Q := fun z => decide (Jc p s me (r + 1 + 1) z ≤ Jc p s me (r + 1 + 1) x)) (fun z q => by
        have q := of_decide_eq_true q
        have := Jc_dn p s me (r + 1) z
        exact decide_eq_true (by omega)) p.n x hx (decide_eq_false (by omega)) (decide_eq_true (Nat.le_refl _))
      omega
theorem Jc_end (p : PD) (s : SD) (me : Nat) {r x : Nat} (hr : p.n ≤ r) (hx : x < p.n) : Jc p s me (r + 1) x = Jc p s me r x := by
  apply Classical.byContradiction
  intro z
  have h1 := Jc_dn p s me r x
  have h2 := Jc_chg p s me r x hx (by omega)
  have h3 := cnt_le (fun y => decide (Jc p s me (r + 1) y ≤ Jc p s me (r + 1) x)) p.n
  omega
theorem Jc_const (p : PD) (s : SD) (me : Nat) {x : Nat} (hx : x < p.n) : ∀ d, Jc p s me (p.n + d) x = Jc p s me p.n x
  | 0 => rfl
  | d + 1 => by
    show Jc p s me (p.n + d + 1) x = _
    rw [Jc_end p s me (by omega) hx, Jc_const p s me hx d]
/-- what is reached -/
noncomputable def JE (p : PD) (s : SD) (me : Nat) : Nat → Nat := Jc p s me p.n
theorem JE_far (p : PD) (s : SD) (me x : Nat) : JE p s me x ≤ 1000000 := Jc_far p s me x p.n
theorem JE_ge (p : PD) (s : SD) (me : Nat) {r x : Nat} (hr : p.n ≤ r) (hx : x < p.n) : Jc p s me r x = JE p s me x := by
  obtain ⟨d, rfl⟩ := Nat.exists_eq_add_of_le hr
  exact Jc_const p s me hx d
theorem Jc_dns (p : PD) (s : SD) (me r x : Nat) : ∀ d, Jc p s me (r + d) x ≤ Jc p s me r x
  | 0 => Nat.le_refl _
  | d + 1 => Nat.le_trans (Jc_dn p s me (r + d) x) (Jc_dns p s me r x d)
theorem JE_le {p : PD} (s : SD) (me : Nat) {x : Nat} (hx : x < p.n) (r : Nat) : JE p s me x ≤ Jc p s me r x := by
  rw [← JE_ge p s me (r := p.n + r) (by omega) hx, Nat.add_comm]
  exact Jc_dns p s me r x p.n
theorem JE_fix {p : PD} (v : PV p) {s : SD} {me k : Nat} (hk : k < p.m) (hu : us p s k = true) : JE p s me (p.co k) ≤ fk p s me k (JE p s me) := by
  have : Jc p s me (p.n + 1) (p.co k) ≤ fk p s me k (JE p s me) := red_lef rfl hu p.m hk
  rw [Jc_end p s me (Nat.le_refl _) (v.con hk)] at this
  exact this
/-- whatever lies below the start and is closed lies below all -/
theorem Jc_low {p : PD} {s : SD} {me : Nat} {c : Nat → Nat} (h0 : ∀ x, x < p.n → c x ≤ Jc p s me 0 x) (hf : ∀ k, k < p.m → us p s k = true → c (p.co k) ≤ fk p s me k c) : ∀ r x, x < p.n → c x ≤ Jc p s me r x
  | 0, x, hx => h0 x hx
  | r + 1, x, hx => by
    have ih := Jc_low h0 hf r
    rw [Jc_s]
    rcases red_cs p s me (Jc p s me r) x p.m with e | ⟨k, h1, h2, h3, e⟩
    · rw [e]; exact ih x hx
    · rw [e]
      have := hf k h1 h3
      rw [h2] at this
      exact Nat.le_trans this (fk_mono ih)
theorem Jc_std {p : PD} (v : PV p) {s : SD} {me : Nat} : ∀ r x, x < p.n → Jc p s me r x < 1000000 → bt (SN p s) x = true
  | 0, x, hx, h => by
    have h' : (if p.ki x = 1 ∧ bt (SN p s) x = true then 0 else 1000000) < 1000000 := h
    split at h'
    · rename_i q; exact q.2
    · omega
  | r + 1, x, hx, h => by
    have ih := Jc_std v (s := s) (me := me) r
    rw [Jc_s] at h
    rcases red_cs p s me (Jc p s me r) x p.m with e | ⟨k, h1, h2, h3, e⟩
    · rw [e] at h; exact ih x hx h
    · rw [e] at h
      rw [SN, bt_ST v]
      subst h2
      refine (Std.cls p (bt s.aw) (fun _ => true)).2 k h1 rfl (us_aw h3) (fun y hy => ?_)
      have hyn := v.pan h1 y hy
      rw [← bt_ST v]
      apply ih y hyn
      have := Jc_sup p s me r (k := k) hyn hy
      omega
theorem Jc_bd (p : PD) (s : SD) (me x : Nat) : ∀ r, Jc p s me r x < 1000000 → Jc p s me r x ≤ (if me = 0 then r else 999)
  | 0 => by
    intro h
    have h' : (if p.ki x = 1 ∧ bt (SN p s) x = true then 0 else 1000000) < 1000000 := h
    have e : Jc p s me 0 x = 0 := by
      show (if p.ki x = 1 ∧ bt (SN p s) x = true then 0 else 1000000) = 0
      split at h'
      · rename_i q; rw [if_pos q]
      · omega
    rw [e]; exact Nat.zero_le _
  | r + 1 => by
    intro h
    rw [Jc_s] at h ⊢
    rcases red_cs p s me (Jc p s me r) x p.m with e | ⟨k, -, -, -, e⟩
    · rw [e] at h ⊢
      have := Jc_bd p s me x r h
      by_cases m0 : me = 0
      · rw [if_pos m0] at this ⊢; omega
      · rw [if_neg m0] at this ⊢; omega
    · rw [e] at h ⊢
      unfold fk at h ⊢
      split at h
      · rename_i q
        have hw : wst p (Jc p s me r) k p.n ≤ (if me = 0 then r else 999) := wst_le p.n (fun y hy hb => by
          have := wst_ge (p := p) (c := Jc p s me r) hb p.n hy
          exact Jc_bd p s me y r (by omega))
        rw [if_pos q]
        by_cases m0 : me = 0
        · rw [if_pos m0] at hw ⊢
          rw [if_pos m0]; omega
        · rw [if_neg m0] at hw ⊢
          rw [if_neg m0]
          split <;> omega
      · omega
theorem JE_bd {p : PD} (v : PV p) (s : SD) (me x : Nat) (h : JE p s me x < 1000000) : JE p s me x ≤ 999 := by
  have := Jc_bd p s me x p.n h
  have hn := v.n10
  unfold JE
  split at this <;> omega
theorem JE_std {p : PD} (v : PV p) {s : SD} {me x : Nat} (hx : x < p.n) : JE p s me x < 1000000 ↔ bt (SN p s) x = true := by
  constructor
  · exact Jc_std v p.n x hx
  · intro h
    rw [SN, bt_ST v] at h
    refine (h (fun x => x < p.n ∧ JE p s me x < 1000000) ⟨fun y h1 h2 h3 => ⟨h1, ?_⟩, fun k h1 _ h3 h4 => ⟨v.con h1, ?_⟩⟩).2
    · have := JE_le s me h1 0
      have e : Jc p s me 0 y = 0 := by
        show (if p.ki y = 1 ∧ bt (SN p s) y = true then 0 else 1000000) = 0
        rw [if_pos ⟨h2, by rw [SN, bt_ST v]; exact (Std.cls p (bt s.aw) (fun _ => true)).1 y h1 h2 h3⟩]
      omega
    · have hu : us p s k = true := by
        unfold us
        rw [h3, Bool.and_eq_true, decide_eq_true_eq, bt_eq0]
        refine ⟨rfl, fun i hi => ?_⟩
        rw [bt_and]
        cases e : bt (p.pa k) i
        · rfl
        · have h5 := h4 i e
          have h6 := Jc_std v p.n i h5.1 h5.2
          rw [SN, bt_ST v] at h6
          rw [h6.ng]; rfl
      have h7 := JE_fix v (me := me) h1 hu
      have h8 : fk p s me k (JE p s me) < 1000000 := fk_fin (fun y hy hb => by
        have := JE_bd v s me y (h4 y hb).2
        omega)
      omega
/-- nothing of kind 2 stands -/
theorem SN_2 {p : PD} (v : PV p) {s : SD} {x : Nat} (h : bt (SN p s) x = true) : ¬ p.ki x = 2 := by
  rw [SN, bt_ST v] at h
  exact h (fun x => ¬ p.ki x = 2) ⟨fun y _ h2 _ => by omega, fun k h1 _ _ _ => (v.2.2.2.1 k h1).2.2.1⟩
/-- usable, with all parts standing -/
def frm (p : PD) (s : SD) (S : Int32) (k : Nat) : Bool := us p s k && decide (p.pa k &&& (S ^^^ (-1)) = 0)
theorem frm_far {p : PD} (v : PV p) {s : SD} {me k : Nat} (hk : k < p.m) {c : Nat → Nat} (hc : ∀ y, y < p.n → JE p s me y ≤ c y) (hu : us p s k = true) (hf : frm p s (SN p s) k = false) : fk p s me k c = 1000000 := by
  unfold frm at hf
  rw [hu, Bool.true_and, decide_eq_false_iff_not, and_not0] at hf
  have : ∃ y, bt (p.pa k) y = true ∧ bt (SN p s) y = false := by
    apply Classical.byContradiction
    intro z
    apply hf
    intro i hi
    cases e : bt (SN p s) i
    · exact absurd ⟨i, hi, e⟩ z
    · rfl
  obtain ⟨y, h1, h2⟩ := this
  have hy := v.pan hk y h1
  refine fk_far hy h1 ?_
  have h3 := hc y hy
  have h4 : ¬ JE p s me y < 1000000 := fun z => by rw [(JE_std v hy).mp z] at h2; contradiction
  omega
