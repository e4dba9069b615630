/-! ===== sets as words, by their bits ===== -/
def bt (x : Int32) (i : Nat) : Bool := x.toBitVec.getLsbD i
theorem bt_ext {x y : Int32} (h : ∀ i, i < 32 → bt x i = bt y i) : x = y := Int32.toBitVec_inj.mp (BitVec.eq_of_getLsbD_eq (fun i hi => h i hi))
theorem bt_or (x y : Int32) (i : Nat) : bt (x ||| y) i = (bt x i || bt y i) := by unfold bt; rw [Int32.toBitVec_or, BitVec.getLsbD_or]
theorem bt_and (x y : Int32) (i : Nat) : bt (x &&& y) i = (bt x i && bt y i) := by unfold bt; rw [Int32.toBitVec_and, BitVec.getLsbD_and]
theorem bt_xor (x y : Int32) (i : Nat) : bt (x ^^^ y) i = (bt x i ^^ bt y i) := by unfold bt; rw [Int32.toBitVec_xor, BitVec.getLsbD_xor]
theorem bt_ge {x : Int32} {i : Nat} (h : 32 ≤ i) : bt x i = false := BitVec.getLsbD_of_ge _ _ h
theorem bt_0 (i : Nat) : bt 0 i = false := BitVec.getLsbD_zero
theorem bt_m1 : ∀ i, i < 32 → bt (-1) i = true := by decide +kernel
theorem bt_sl : ∀ n, n < 32 → ∀ i, i < 32 → bt ((1 : Int32) <<< (nI n &&& 31)) i = decide (i = n) := by decide +kernel
theorem bt_1 : ∀ i, i < 32 → bt 1 i = decide (i = 0) := by decide +kernel
theorem bt_all : ∀ n, n < 15 → ∀ i, i < 32 → bt (((1 : Int32) <<< (nI n &&& 31)) - 1) i = decide (i < n) := by decide +kernel
theorem bt_not (x : Int32) {i : Nat} (h : i < 32) : bt (x ^^^ (-1)) i = !bt x i := by rw [bt_xor, bt_m1 i h]; cases bt x i <;> rfl
theorem bt_smod : ∀ n, n < 32 → ((nI n &&& 31).toBitVec.smod 32).toNat = n := by decide +kernel
theorem bt_shr0 (x : Int32) {n : Nat} (hn : n < 32) : bt (x >>> (nI n &&& 31)) 0 = bt x n := by
  unfold bt
  rw [Int32.toBitVec_shiftRight]
  show (x.toBitVec.sshiftRight ((nI n &&& 31).toBitVec.smod 32).toNat).getLsbD 0 = _
  rw [bt_smod n hn, BitVec.getLsbD_sshiftRight]
  simp [hn]
/-- the bit at a place, as 1 or 0 -/
theorem bitv (x : Int32) {n : Nat} (hn : n < 32) : (x >>> (nI n &&& 31)) &&& 1 = if bt x n = true then 1 else 0 := by
  apply bt_ext
  intro i hi
  rw [bt_and, bt_1 i hi]
  by_cases h0 : i = 0
  · subst h0
    rw [bt_shr0 x hn]
    cases bt x n <;> decide
  · rw [decide_eq_false h0, Bool.and_false]
    split
    · rw [bt_1 i hi, decide_eq_false h0]
    · rw [bt_0]
theorem i01 : ¬ (0 : Int32) = 1 := by decide
theorem x_has (x : Int32) {n : Nat} (hn : n < 32) (h : AH) : f_X11_has x (nI n) h = some (if bt x n = true then 1 else 0, h) := by
  unfold f_X11_has
  rw [bitv x hn]
  split
  · rw [if_pos rfl]; rfl
  · rw [if_neg i01]; rfl
theorem m_has (x : Int32) {n : Nat} (hn : n < 32) (h : AH) : f_X12_has x (nI n) h = some (if bt x n = true then 1 else 0, h) := x_has x hn h
theorem x_bit (x : Int32) {n : Nat} (hn : n < 32) (h : AH) : f_X11_bit x (nI n) h = some (if bt x n = true then 1 else 0, h) := by
  unfold f_X11_bit
  rw [bitv x hn]
theorem bt_eq0 {x : Int32} : x = 0 ↔ ∀ i, i < 32 → bt x i = false := ⟨fun e i _ => by rw [e, bt_0], fun h => bt_ext (fun i hi => by rw [h i hi, bt_0])⟩
theorem if10 (c : Prop) [Decidable c] {α : Type} (a b : α) : (if (if c then (1 : Int32) else 0) = 0 then a else b) = if c then b else a := by
  by_cases h : c
  · rw [if_pos h, if_neg i10, if_pos h]
  · rw [if_neg h, if_pos rfl, if_neg h]
/-! ===== the data of a room: n, how many reasons, kinds, claims of, parts of; of a state: away, known, law, trail's size, sureness, trail ===== -/
def PD : Type := Nat × Nat × (Nat → Nat) × (Nat → Nat) × (Nat → Int32)
def PD.n (p : PD) : Nat := p.1
def PD.m (p : PD) : Nat := p.2.1
def PD.ki (p : PD) : Nat → Nat := p.2.2.1
def PD.co (p : PD) : Nat → Nat := p.2.2.2.1
def PD.pa (p : PD) : Nat → Int32 := p.2.2.2.2
def SD : Type := Int32 × Int32 × Nat × Nat × (Nat → Nat) × (Nat → Nat)
def SD.aw (s : SD) : Int32 := s.1
def SD.kn (s : SD) : Int32 := s.2.1
def SD.lw (s : SD) : Nat := s.2.2.1
def SD.ts (s : SD) : Nat := s.2.2.2.1
def SD.su (s : SD) : Nat → Nat := s.2.2.2.2.1
def SD.tr (s : SD) : Nat → Nat := s.2.2.2.2.2
/-- how many of the first j numbers are such -/
def cnt (P : Nat → Bool) : Nat → Nat
  | 0 => 0
  | j + 1 => cnt P j + (if P j = true then 1 else 0)
def sub (a : Int32) (n : Nat) : Prop := ∀ i, bt a i = true → i < n
def PV (p : PD) : Prop := p.n ≤ 10 ∧ p.m ≤ 14 ∧ (∀ x, x < p.n → p.ki x ≤ 5) ∧ (∀ k, k < p.m → p.co k < p.n ∧ p.ki (p.co k) ≠ 1 ∧ p.ki (p.co k) ≠ 2 ∧ sub (p.pa k) p.n ∧ bt (p.pa k) (p.co k) = false ∧ p.pa k ≠ 0 ∧ cnt (bt (p.pa k)) p.n ≤ 3) ∧ ∀ x, cnt (fun k => decide (p.co k = x)) p.m ≤ 4
def SV (p : PD) (s : SD) : Prop := sub s.aw p.n ∧ (∀ i, bt s.kn i = true → i < p.n ∧ p.ki i = 4) ∧ s.lw ≤ 1 ∧ s.ts ≤ 40 ∧ (∀ k, k < p.m → 1 ≤ s.su k ∧ s.su k ≤ 9) ∧ (∀ i, i < s.ts → s.tr i < p.n)
def XPl (h : AH) (i : Nat) (p : PD) : Prop := h.1 12 i 5 = nI p.n ∧ h.1 12 i 6 = nI p.m ∧ (∀ x, x < p.n → h.1 13 i x = nI (p.ki x)) ∧ (∀ j, j < 6 → ∀ x, bt (h.1 14 i j) x = decide (x < p.n ∧ p.ki x = j)) ∧ ∀ k, k < p.m → h.1 15 i k = nI (p.co k) ∧ h.1 16 i k = p.pa k
def MPl (h : AH) (p : PD) : Prop := h.1 34 0 10 = nI p.n ∧ h.1 34 0 11 = nI p.m ∧ (∀ x, x < p.n → h.1 41 0 x = nI (p.ki x)) ∧ ∀ k, k < p.m → h.1 42 0 k = nI (p.co k) ∧ h.1 43 0 k = p.pa k
def XSt (h : AH) (c : Nat) (p : PD) (s : SD) : Prop := h.1 8 c 2 = nI s.ts ∧ h.1 8 c 3 = s.aw ∧ h.1 8 c 4 = s.kn ∧ h.1 8 c 5 = nI s.lw ∧ (∀ k, k < p.m → h.1 9 c k = nI (s.su k)) ∧ ∀ i, i < s.ts → h.1 10 c i = nI (s.tr i)
def MSt (h : AH) (p : PD) (s : SD) : Prop := h.1 34 0 27 = nI s.ts ∧ h.1 34 0 16 = s.aw ∧ h.1 34 0 17 = s.kn ∧ h.1 34 0 18 = nI s.lw ∧ (∀ k, k < p.m → h.1 44 0 k = nI (s.su k)) ∧ ∀ i, i < s.ts → h.1 49 0 i = nI (s.tr i)
def MIm (h : AH) (c : Nat) (p : PD) (s : SD) : Prop := h.1 51 0 c = nI s.ts ∧ h.1 53 0 (3 * c) = s.aw ∧ h.1 53 0 (3 * c + 1) = s.kn ∧ h.1 53 0 (3 * c + 2) = nI s.lw ∧ (∀ k, k < p.m → h.1 54 0 (14 * c + k) = nI (s.su k)) ∧ ∀ i, i < s.ts → h.1 52 0 (41 * c + i) = nI (s.tr i)
def ImR (hx hm : AH) (p : PD) (c : Nat) : Prop := (hx.1 8 c 6 = 0 ∧ hm.1 50 0 c = 0) ∨ (hx.1 8 c 6 = 1 ∧ hm.1 50 0 c = 1 ∧ ∃ s, SV p s ∧ XSt hx c p s ∧ MIm hm c p s)
/-- the room and the evening of both, with their data -/
def RD (hx hm : AH) (p : PD) (s : SD) : Prop := PV p ∧ SV p s ∧ XPl hx 0 p ∧ MPl hm p ∧ XSt hx 3 p s ∧ MSt hm p s ∧ ∀ c, c < 3 → ImR hx hm p c
def RS (hx hm : AH) : Prop := ∃ p s, RD hx hm p s
def Rel (hx hm : AH) : Prop := Bk hx hm ∧ RS hx hm
theorem XPl.fr {h h2 : AH} {p : PD} (a : XPl h 0 p) (k : KX h h2) : XPl h2 0 p := by
  unfold XPl at *
  rw [k.2 12 (by omega) (by omega), k.2 13 (by omega) (by omega), k.2 14 (by omega) (by omega), k.2 15 (by omega) (by omega), k.2 16 (by omega) (by omega)]
  exact a
theorem MPl.fr {h h2 : AH} {p : PD} (a : MPl h p) (k : KM h h2) : MPl h2 p := by
  unfold MPl at *
  rw [k.2.2 10 (by omega), k.2.2 11 (by omega), k.1 41 (by omega) (by omega), k.1 42 (by omega) (by omega), k.1 43 (by omega) (by omega)]
  exact a
theorem XSt.fr {h h2 : AH} {c : Nat} {p : PD} {s : SD} (a : XSt h c p s) (k : KX h h2) : XSt h2 c p s := by
  unfold XSt at *
  rw [k.1 8 (by omega) (by omega), k.1 9 (by omega) (by omega), k.1 10 (by omega) (by omega)]
  exact a
theorem MSt.fr {h h2 : AH} {p : PD} {s : SD} (a : MSt h p s) (k : KM h h2) : MSt h2 p s := by
  unfold MSt at *
  rw [k.2.2 27 (by omega), k.2.2 16 (by omega), k.2.2 17 (by omega), k.2.2 18 (by omega), k.1 44 (by omega) (by omega), k.2.1 49 (by omega) (by omega)]
  exact a
theorem MIm.fr {h h2 : AH} {c : Nat} {p : PD} {s : SD} (a : MIm h c p s) (k : KM h h2) : MIm h2 c p s := by
  unfold MIm at *
  rw [k.2.1 51 (by omega) (by omega), k.2.1 52 (by omega) (by omega), k.2.1 53 (by omega) (by omega), k.2.1 54 (by omega) (by omega)]
  exact a
theorem ImR.fr {hx hm hx2 hm2 : AH} {c : Nat} {p : PD} (a : ImR hx hm p c) (k : KX hx hx2) (l : KM hm hm2) : ImR hx2 hm2 p c := by
  unfold ImR at *
  rw [k.1 8 (by omega) (by omega), l.2.1 50 (by omega) (by omega)]
  rcases a with a | ⟨a, b, s, c, d, e⟩
  · exact Or.inl a
  · exact Or.inr ⟨a, b, s, c, d.fr k, e.fr l⟩
theorem RD.fr {hx hm hx2 hm2 : AH} {p : PD} {s : SD} (a : RD hx hm p s) (k : KX hx hx2) (l : KM hm hm2) : RD hx2 hm2 p s :=
  ⟨a.1, a.2.1, a.2.2.1.fr k, a.2.2.2.1.fr l, a.2.2.2.2.1.fr k, a.2.2.2.2.2.1.fr l, fun c hc => (a.2.2.2.2.2.2 c hc).fr k l⟩
theorem OB.rel {hx hm : AH} {fx fm : Option (Int32 × AH)} (o : OB hx hm fx fm) (h : Rel hx hm) : ∃ (r : Int32) (hx2 hm2 : AH), fx = some (r, hx2) ∧ fm = some (r, hm2) ∧ Rel hx2 hm2 := by
  obtain ⟨r, hx2, hm2, a, b, c, d, e⟩ := o
  obtain ⟨p, s, q⟩ := h.2
  exact ⟨r, hx2, hm2, a, b, c, p, s, q.fr d e⟩
/-! the methods so far, over Rel -/
theorem e_row : E2 Rel f_X11_row f_X12_row := fun a b _ _ h => (o_row h.1 a b).rel h
theorem e_lay : E3 Rel f_X11_lay f_X12_lay := fun a b c _ _ h => (o_lay h.1 a b c).rel h
theorem e_at : E2 Rel f_X11_at f_X12_at := fun a b _ _ h => (o_at h.1 a b).rel h
theorem e_tear : E1 Rel f_X11_tear f_X12_tear := fun a _ _ h => (o_tear h.1 a).rel h
theorem e_copy : E5 Rel f_X11_copy f_X12_copy := fun a b c d e _ _ h => (o_copy h.1 a b c d e).rel h
theorem e_mean : E1 Rel f_X11_mean f_X12_mean := fun a _ _ h => (o_mean h.1 a).rel h
theorem e_text : E2 Rel f_X11_text f_X12_text := fun a b _ _ h => (o_text h.1 a b).rel h
theorem e_put : E3 Rel f_X11_put f_X12_put := fun a b c _ _ h => (o_put h.1 a b c).rel h
