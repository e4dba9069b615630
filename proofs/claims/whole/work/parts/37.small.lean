/-! ===== what changes a state ===== -/
def FX3 (h h2 : AH) : Prop := (∀ k, ¬ (8 ≤ k ∧ k ≤ 10) → h2.1 k = h.1 k) ∧ h2.2 = h.2 ∧ ∀ k c, c ≠ 3 → h2.1 k c = h.1 k c
def FM3 (h h2 : AH) : Prop := (∀ k, k ≠ 34 → k ≠ 44 → k ≠ 49 → h2.1 k = h.1 k) ∧ h2.2 = h.2 ∧ ∀ c, c ≠ 16 → c ≠ 17 → c ≠ 18 → c ≠ 27 → h2.1 34 0 c = h.1 34 0 c
theorem FX3.rfl {h : AH} : FX3 h h := ⟨fun _ _ => Eq.refl _, Eq.refl _, fun _ _ _ => Eq.refl _⟩
theorem FM3.rfl {h : AH} : FM3 h h := ⟨fun _ _ _ _ => Eq.refl _, Eq.refl _, fun _ _ _ _ _ => Eq.refl _⟩
theorem FX3.sI {a b : AH} (h : FX3 a b) {k j : Nat} {v : Int32} (hk : 8 ≤ k ∧ k ≤ 10) : FX3 a (hsI b k 3 j v) := by
  refine ⟨fun q hq => ?_, h.2.1, fun q c hc => ?_⟩
  · rw [hsI_k (by omega)]; exact h.1 q hq
  · rw [← h.2.2 q c hc]
    funext d
    rw [hsI_1, if_neg (fun z => hc z.2.1)]
theorem FM3.sI {a b : AH} (h : FM3 a b) {k j : Nat} {v : Int32} (hk : k = 44 ∨ k = 49 ∨ (k = 34 ∧ (j = 16 ∨ j = 17 ∨ j = 18 ∨ j = 27))) : FM3 a (hsI b k 0 j v) := by
  refine ⟨fun q h1 h2 h3 => ?_, h.2.1, fun c h1 h2 h3 h4 => ?_⟩
  · rw [hsI_k (by omega)]; exact h.1 q h1 h2 h3
  · rw [hsI_1, if_neg (by omega)]; exact h.2.2 c h1 h2 h3 h4
theorem Bk.st {hx hm hx2 hm2 : AH} (b : Bk hx hm) (f : FX3 hx hx2) (g : FM3 hm hm2) : Bk hx2 hm2 := by
  refine ⟨b.1.fr (f.1 _ (by omega)) (f.1 _ (by omega)) f.2.1 (fun j hj => g.2.2 j (by omega) (by omega) (by omega) (by omega)) (g.1 _ (by omega) (by omega) (by omega)) g.2.1, b.2.1.fr ?_ ?_ ?_ ?_, b.2.2.fr ?_ ?_ ?_ ?_⟩ <;> first | exact f.1 _ (by omega) | exact g.1 _ (by omega) (by omega) (by omega)
theorem RD.st {hx hm hx2 hm2 : AH} {p : PD} {s s2 : SD} (a : RD hx hm p s) (f : FX3 hx hx2) (g : FM3 hm hm2) (v : SV p s2) (x : XSt hx2 3 p s2) (m : MSt hm2 p s2) : RD hx2 hm2 p s2 := by
  refine ⟨a.1, v, ?_, ?_, x, m, fun c hc => ?_⟩
  · have := a.2.2.1
    unfold XPl at *
    rw [f.1 12 (by omega), f.1 13 (by omega), f.1 14 (by omega), f.1 15 (by omega), f.1 16 (by omega)]
    exact this
  · have := a.2.2.2.1
    unfold MPl at *
    rw [g.2.2 10 (by omega) (by omega) (by omega) (by omega), g.2.2 11 (by omega) (by omega) (by omega) (by omega), g.1 41 (by omega) (by omega) (by omega), g.1 42 (by omega) (by omega) (by omega), g.1 43 (by omega) (by omega) (by omega)]
    exact this
  · have := a.2.2.2.2.2.2 c hc
    unfold ImR XSt MIm at *
    rw [f.2.2 8 c (by omega), f.2.2 9 c (by omega), f.2.2 10 c (by omega), g.1 50 (by omega) (by omega) (by omega), g.1 51 (by omega) (by omega) (by omega), g.1 52 (by omega) (by omega) (by omega), g.1 53 (by omega) (by omega) (by omega), g.1 54 (by omega) (by omega) (by omega)]
    exact this
def OR (fx fm : Option (Int32 × AH)) : Prop := ∃ (r : Int32) (hx2 hm2 : AH), fx = some (r, hx2) ∧ fm = some (r, hm2) ∧ Rel hx2 hm2
theorem OR.same {hx hm : AH} (h : Rel hx hm) {fx fm : Option (Int32 × AH)} {r : Int32} (e1 : fx = some (r, hx)) (e2 : fm = some (r, hm)) : OR fx fm := ⟨r, hx, hm, e1, e2, h⟩
theorem OR.find {hx hm : AH} (h : Rel hx hm) {fx fm : Option (Int32 × AH)} {f : Nat} (hf : f < 6) (e1 : fx = some (-3, hxF hx f)) (e2 : fm = some (-3, hmF hm f)) : OR fx fm := (OB.find h.1 hf e1 e2).rel h
theorem OR.told {hx hm : AH} (h : Rel hx hm) {fx fm : Option (Int32 × AH)} {r : Int32} (v : Int32) (e1 : fx = some (r, hsI hx 0 0 14 v)) (e2 : fm = some (r, hsI hm 34 0 2 v)) : OR fx fm := (OB.told h.1 v e1 e2).rel h
/-! getters -/
theorem e_asked : E0 Rel f_X11_asked f_X12_asked := fun hx hm h => ⟨_, _, _, rfl, by unfold f_X12_asked; rw [h.1.1.2.1], h⟩
theorem e_finding : E0 Rel f_X11_finding f_X12_finding := fun hx hm h => ⟨_, _, _, rfl, by unfold f_X12_finding; rw [h.1.1.1], h⟩
theorem e_upper : EL Rel f_X11_upper f_X12_upper := fun hx hm h => ⟨_, _, _, rfl, by unfold f_X12_upper; rw [h.1.1.2.2.1], h⟩
theorem e_lower : EL Rel f_X11_lower f_X12_lower := fun hx hm h => ⟨_, _, _, rfl, by unfold f_X12_lower; rw [h.1.1.2.2.2.1], h⟩
theorem e_findings : E1 Rel f_X11_findings f_X12_findings := by
  intro a hx hm h
  unfold f_X11_findings f_X12_findings
  rw [m_in, bd_some, if10]
  have e1 : (1 : Int32).toInt = 1 := rfl
  have e5 : (5 : Int32).toInt = 5 := rfl
  simp only [i_lt, i_le, e1, e5]
  by_cases b : 1 ≤ a.toInt ∧ a.toInt ≤ 5
  · have hb : inb a 6 = true := inb_iff.mpr (by omega)
    obtain ⟨j, hj, rfl⟩ := inb_ex hb
    rw [if_pos b, if_neg (by omega), if_pos b.2, if_pos hb, if_pos hb, nI_cl (by omega), h.1.1.2.2.2.2 j hj]
    exact ⟨_, _, _, rfl, rfl, h⟩
  · rw [if_neg b]
    by_cases d : a.toInt < 1
    · rw [if_pos d]; exact ⟨_, _, _, rfl, rfl, h⟩
    · rw [if_neg d, if_neg (by omega)]; exact ⟨_, _, _, rfl, rfl, h⟩
/-! trust, away, learn, law -/
theorem m_in01 (x : Int32) (h : AH) : f_X12_in x 0 1 h = some (if x = 0 ∨ x = 1 then 1 else 0, h) := by
  rw [m_in]
  have e0 : (0 : Int32).toInt = 0 := rfl
  have e1 : (1 : Int32).toInt = 1 := rfl
  rw [e0, e1]
  congr 2
  have : (0 ≤ x.toInt ∧ x.toInt ≤ 1) ↔ (x = 0 ∨ x = 1) := by
    rw [← Int32.toInt_inj, ← Int32.toInt_inj, e0, e1]
    omega
  simp only [this]
theorem x_isSwitch (x : Int32) (h : AH) : f_X11_isSwitch x h = some (if x = 0 ∨ x = 1 then 1 else 0, h) := by
  unfold f_X11_isSwitch
  by_cases a : x = 0
  · rw [if_pos a, if_pos (Or.inl a)]; rfl
  · rw [if_neg a]
    by_cases b : x = 1
    · rw [if_pos b, if_pos (Or.inr b)]; rfl
    · rw [if_neg b, if_neg (by rintro (z | z) <;> contradiction)]; rfl
theorem e_trust : E2 Rel f_X11_trust f_X12_trust := by
  intro a v hx hm h
  show OR _ _
  obtain ⟨b, p, s, d⟩ := h
  have h : Rel hx hm := ⟨b, p, s, d⟩
  unfold f_X11_trust f_X12_trust
  simp only [x_isReason d.x, m_isReason d.m, bd_some, m_in, if10]
  by_cases hb : inb a p.m = true
  rotate_left
  · simp only [if_neg hb]; exact OR.same h rfl rfl
  obtain ⟨k, hk, rfl⟩ := inb_ex hb
  have hm14 := d.1.m14
  have e1 : (1 : Int32).toInt = 1 := rfl
  have e9 : (9 : Int32).toInt = 9 := rfl
  simp only [if_pos hb, if_pos (inb_up hb hm14), nI_cl (show k < 100000 by omega), d.x.su hk, d.m.su hk, i_lt, i_le, e1, e9]
  by_cases hv : 1 ≤ v.toInt ∧ v.toInt ≤ 9
  rotate_left
  · simp only [if_neg hv]
    by_cases q : v.toInt < 1
    · simp only [if_pos q]; exact OR.same h rfl rfl
    · simp only [if_neg q, if_neg (show ¬ v.toInt ≤ 9 by omega)]; exact OR.same h rfl rfl
  simp only [if_pos hv, if_neg (show ¬ v.toInt < 1 by omega), if_pos hv.2]
  obtain ⟨w, hw, rfl⟩ := ni_of (x := v) (N := 9) (by omega) (by omega)
  rw [nI_toInt (by omega)] at hv
  have fx : FX3 hx (hsI hx 9 3 k (nI w)) := FX3.rfl.sI (by omega)
  have fm : FM3 hm (hsI hm 44 0 k (nI w)) := FM3.rfl.sI (by omega)
  obtain ⟨v1, v2, v3, v4, v5, v6⟩ := d.2.1
  obtain ⟨x1, x2, x3, x4, x5, x6⟩ := d.2.2.2.2.1
  obtain ⟨m1, m2, m3, m4, m5, m6⟩ := d.2.2.2.2.2.1
  refine ⟨_, _, _, rfl, rfl, b.st fx fm, p, (s.aw, s.kn, s.lw, s.ts, fun i => if i = k then w else s.su i, s.tr), d.st fx fm ⟨v1, v2, v3, v4, fun i hi => ?_, v6⟩ ⟨?_, ?_, ?_, ?_, fun i hi => ?_, fun i hi => ?_⟩ ⟨?_, ?_, ?_, ?_, fun i hi => ?_, fun i hi => ?_⟩⟩
  · show 1 ≤ (if i = k then w else s.su i) ∧ (if i = k then w else s.su i) ≤ 9
    split
    · omega
    · exact v5 i hi
  · rw [hsI_k (by decide)]; exact x1
  · rw [hsI_k (by decide)]; exact x2
  · rw [hsI_k (by decide)]; exact x3
  · rw [hsI_k (by decide)]; exact x4
  · show _ = nI (if i = k then w else s.su i)
    rw [hsI_1]
    by_cases e : i = k
    · rw [if_pos ⟨rfl, rfl, e⟩, if_pos e]
    · rw [if_neg (fun z => e z.2.2), if_neg e]; exact x5 i hi
  · rw [hsI_k (by decide)]; exact x6 i hi
  · rw [hsI_k (by decide)]; exact m1
  · rw [hsI_k (by decide)]; exact m2
  · rw [hsI_k (by decide)]; exact m3
  · rw [hsI_k (by decide)]; exact m4
  · show _ = nI (if i = k then w else s.su i)
    rw [hsI_1]
    by_cases e : i = k
    · rw [if_pos ⟨rfl, rfl, e⟩, if_pos e]
    · rw [if_neg (fun z => e z.2.2), if_neg e]; exact m5 i hi
  · rw [hsI_k (by decide)]; exact m6 i hi
theorem e_law : E1 Rel f_X11_law f_X12_law := by
  intro a hx hm h
  show OR _ _
  obtain ⟨b, p, s, d⟩ := h
  have h : Rel hx hm := ⟨b, p, s, d⟩
  unfold f_X11_law f_X12_law
  simp only [x_isSwitch, m_in01, bd_some, if10, d.x.lw, d.m.lw]
  by_cases hv : a = 0 ∨ a = 1
  rotate_left
  · simp only [if_neg hv]; exact OR.same h rfl rfl
  simp only [if_pos hv]
  obtain ⟨w, hw, rfl⟩ : ∃ w : Nat, w ≤ 1 ∧ a = nI w := by
    rcases hv with rfl | rfl
    · exact ⟨0, by omega, rfl⟩
    · exact ⟨1, by omega, rfl⟩
  have fx : FX3 hx (hsI hx 8 3 5 (nI w)) := FX3.rfl.sI (by omega)
  have fm : FM3 hm (hsI hm 34 0 18 (nI w)) := FM3.rfl.sI (by omega)
  obtain ⟨v1, v2, v3, v4, v5, v6⟩ := d.2.1
  obtain ⟨x1, x2, x3, x4, x5, x6⟩ := d.2.2.2.2.1
  obtain ⟨m1, m2, m3, m4, m5, m6⟩ := d.2.2.2.2.2.1
  refine ⟨_, _, _, rfl, rfl, b.st fx fm, p, (s.aw, s.kn, w, s.ts, s.su, s.tr), d.st fx fm ⟨v1, v2, hw, v4, v5, v6⟩ ⟨?_, ?_, ?_, ?_, fun i hi => ?_, fun i hi => ?_⟩ ⟨?_, ?_, ?_, ?_, fun i hi => ?_, fun i hi => ?_⟩⟩
  · rw [hsI_1, if_neg (by omega)]; exact x1
  · rw [hsI_1, if_neg (by omega)]; exact x2
  · rw [hsI_1, if_neg (by omega)]; exact x3
  · rw [hsI_1, if_pos ⟨rfl, rfl, rfl⟩]; rfl
  · rw [hsI_k (by decide)]; exact x5 i hi
  · rw [hsI_k (by decide)]; exact x6 i hi
  · rw [hsI_1, if_neg (by omega)]; exact m1
  · rw [hsI_1, if_neg (by omega)]; exact m2
  · rw [hsI_1, if_neg (by omega)]; exact m3
  · rw [hsI_1, if_pos ⟨rfl, rfl, rfl⟩]; rfl
  · rw [hsI_k (by decide)]; exact m5 i hi
  · rw [hsI_k (by decide)]; exact m6 i hi
/-- a bit set or cleared -/
def wb (a : Int32) (x : Nat) (v : Int32) : Int32 := if v = 1 then a ||| ((1 : Int32) <<< (nI x &&& 31)) else a &&& (((1 : Int32) <<< (nI x &&& 31)) ^^^ (-1))
theorem x_withBit (a : Int32) (x : Nat) (v : Int32) (h : AH) : f_X11_withBit a (nI x) v h = some (wb a x v, h) := by
  unfold f_X11_withBit wb
  split <;> rfl
theorem bt_wb {a : Int32} {x : Nat} {v : Int32} {i : Nat} (hx : x < 32) (h : bt (wb a x v) i = true) : bt a i = true ∨ i = x := by
  by_cases hi : i < 32
  · unfold wb at h
    split at h
    · rw [bt_or, bt_sl x hx i hi] at h
      simp at h
      exact h
    · rw [bt_and] at h
      simp at h
      exact Or.inl h.1
  · rw [bt_ge (by omega)] at h; contradiction
theorem if_some {c : Prop} [Decidable c] {a b : Int32} {h : AH} : (if c then some (a, h) else some (b, h)) = some (if c then a else b, h) := by split <;> rfl
theorem e_away : E2 Rel f_X11_away f_X12_away := by
  intro a v hx hm h
  show OR _ _
  obtain ⟨b, p, s, d⟩ := h
  have h : Rel hx hm := ⟨b, p, s, d⟩
  unfold f_X11_away f_X12_away
  simp only [x_isClaim d.x, m_isClaim d.m, bd_some, if10, x_isSwitch, m_in01, d.x.aw, d.m.aw]
  by_cases hb : inb a p.n = true
  rotate_left
  · simp only [if_neg hb]; exact OR.same h rfl rfl
  obtain ⟨k, hk, rfl⟩ := inb_ex hb
  have hn10 := d.1.n10
  simp only [if_pos hb]
  by_cases hv : v = 0 ∨ v = 1
  rotate_left
  · simp only [if_neg hv]; exact OR.same h rfl rfl
  simp only [if_pos hv, x_bit _ (show k < 32 by omega), m_has _ (show k < 32 by omega), bd_some, x_withBit, if10, d.x.aw, d.m.aw]
  have fx : FX3 hx (hsI hx 8 3 3 (wb s.aw k v)) := FX3.rfl.sI (by omega)
  have fm : FM3 hm (hsI hm 34 0 16 (wb s.aw k v)) := FM3.rfl.sI (by omega)
  obtain ⟨v1, v2, v3, v4, v5, v6⟩ := d.2.1
  obtain ⟨x1, x2, x3, x4, x5, x6⟩ := d.2.2.2.2.1
  obtain ⟨m1, m2, m3, m4, m5, m6⟩ := d.2.2.2.2.2.1
  refine ⟨if bt s.aw k = true then 1 else 0, hsI hx 8 3 3 (wb s.aw k v), hsI hm 34 0 16 (wb s.aw k v), rfl, ?_, b.st fx fm, p, (wb s.aw k v, s.kn, s.lw, s.ts, s.su, s.tr), d.st fx fm ⟨fun i hi => ?_, v2, v3, v4, v5, v6⟩ ⟨?_, ?_, ?_, ?_, fun i hi => ?_, fun i hi => ?_⟩ ⟨?_, ?_, ?_, ?_, fun i hi => ?_, fun i hi => ?_⟩⟩
  · unfold wb
    by_cases e : bt s.aw k = true
    · rw [if_pos e, if_pos e]
      split <;> rfl
    · rw [if_neg e, if_neg e]
      split <;> rfl
  · rcases bt_wb (by omega) hi with z | z
    · exact v1 i z
    · omega
  · rw [hsI_1, if_neg (by omega)]; exact x1
  · rw [hsI_1, if_pos ⟨rfl, rfl, rfl⟩]; rfl
  · rw [hsI_1, if_neg (by omega)]; exact x3
  · rw [hsI_1, if_neg (by omega)]; exact x4
  · rw [hsI_k (by decide)]; exact x5 i hi
  · rw [hsI_k (by decide)]; exact x6 i hi
  · rw [hsI_1, if_neg (by omega)]; exact m1
  · rw [hsI_1, if_pos ⟨rfl, rfl, rfl⟩]; rfl
  · rw [hsI_1, if_neg (by omega)]; exact m3
  · rw [hsI_1, if_neg (by omega)]; exact m4
  · rw [hsI_k (by decide)]; exact m5 i hi
  · rw [hsI_k (by decide)]; exact m6 i hi
theorem e_learn : E2 Rel f_X11_learn f_X12_learn := by
  intro a v hx hm h
  show OR _ _
  obtain ⟨b, p, s, d⟩ := h
  have h : Rel hx hm := ⟨b, p, s, d⟩
  unfold f_X11_learn f_X12_learn
  simp only [x_isClaim d.x, m_isClaim d.m, bd_some, if10, x_isSwitch, m_in01, d.x.kn, d.m.kn, x_bits4 d.x, x_ref3, m_me3]
  by_cases hb : inb a p.n = true
  rotate_left
  · simp only [if_neg hb]; exact OR.same h rfl rfl
  obtain ⟨k, hk, rfl⟩ := inb_ex hb
  have hn10 := d.1.n10
  have hk5 := d.1.ki5 hk
  simp only [if_pos hb, if_pos (inb_up hb hn10), nI_cl (show k < 100000 by omega), d.m.ki hk]
  by_cases hv : v = 0 ∨ v = 1
  rotate_left
  · simp only [if_neg hv]; exact OR.same h rfl rfl
  have e4 : (nI (p.ki k) = 4) ↔ p.ki k = 4 := nI_eq (b := 4) (by omega) (by omega)
  simp only [if_pos hv, x_has _ (show k < 32 by omega), bd_some, if10, bt_KB d.1, decide_eq_true hk, Bool.true_and, decide_eq_true_eq]
  by_cases hq : p.ki k = 4
  rotate_left
  · simp only [if_neg hq, if_neg (fun z => hq (e4.mp z))]
    exact OR.find h (f := 3) (by omega) rfl rfl
  simp only [if_pos hq, if_pos (e4.mpr hq), x_bit _ (show k < 32 by omega), m_has _ (show k < 32 by omega), bd_some, x_withBit, if10, d.x.kn, d.m.kn]
  have fx : FX3 hx (hsI hx 8 3 4 (wb s.kn k v)) := FX3.rfl.sI (by omega)
  have fm : FM3 hm (hsI hm 34 0 17 (wb s.kn k v)) := FM3.rfl.sI (by omega)
  obtain ⟨v1, v2, v3, v4, v5, v6⟩ := d.2.1
  obtain ⟨x1, x2, x3, x4, x5, x6⟩ := d.2.2.2.2.1
  obtain ⟨m1, m2, m3, m4, m5, m6⟩ := d.2.2.2.2.2.1
  refine ⟨if bt s.kn k = true then 1 else 0, hsI hx 8 3 4 (wb s.kn k v), hsI hm 34 0 17 (wb s.kn k v), rfl, ?_, b.st fx fm, p, (s.aw, wb s.kn k v, s.lw, s.ts, s.su, s.tr), d.st fx fm ⟨v1, fun i hi => ?_, v3, v4, v5, v6⟩ ⟨?_, ?_, ?_, ?_, fun i hi => ?_, fun i hi => ?_⟩ ⟨?_, ?_, ?_, ?_, fun i hi => ?_, fun i hi => ?_⟩⟩
  · unfold wb
    by_cases e : bt s.kn k = true
    · rw [if_pos e, if_pos e]
      split <;> rfl
    · rw [if_neg e, if_neg e]
      split <;> rfl
  · rcases bt_wb (by omega) hi with z | z
    · exact v2 i z
    · subst z; exact ⟨hk, hq⟩
  · rw [hsI_1, if_neg (by omega)]; exact x1
  · rw [hsI_1, if_neg (by omega)]; exact x2
  · rw [hsI_1, if_pos ⟨rfl, rfl, rfl⟩]; rfl
  · rw [hsI_1, if_neg (by omega)]; exact x4
  · rw [hsI_k (by decide)]; exact x5 i hi
  · rw [hsI_k (by decide)]; exact x6 i hi
  · rw [hsI_1, if_neg (by omega)]; exact m1
  · rw [hsI_1, if_neg (by omega)]; exact m2
  · rw [hsI_1, if_pos ⟨rfl, rfl, rfl⟩]; rfl
  · rw [hsI_1, if_neg (by omega)]; exact m4
  · rw [hsI_k (by decide)]; exact m5 i hi
  · rw [hsI_k (by decide)]; exact m6 i hi
