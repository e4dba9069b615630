def pt (N : Nat) (tx : Nat → Int32) (n x : Nat) : Nat → Nat → Int32 → (Option Int32 × Nat)
  | 0, b, S => (some S, b)
  | l + 1, b, S => match dgt N tx b with
    | some d => if d < n ∧ ¬ d = x ∧ bt S d = false then pt N tx n x l (b + 1) (S ||| ((1 : Int32) <<< (nI d &&& 31))) else (none, b)
    | none => (none, b)
theorem pt_none {N : Nat} {tx : Nat → Int32} {n x l b : Nat} {S : Int32} (e : dgt N tx b = none) : pt N tx n x (l + 1) b S = (none, b) := by
  unfold pt
  rw [e]
theorem pt_some {N : Nat} {tx : Nat → Int32} {n x l b d : Nat} {S : Int32} (e : dgt N tx b = some d) : pt N tx n x (l + 1) b S = if d < n ∧ ¬ d = x ∧ bt S d = false then pt N tx n x l (b + 1) (S ||| ((1 : Int32) <<< (nI d &&& 31))) else (none, b) := by
  rw [pt, e]
theorem dgX_n : dgX none = -9 := rfl
theorem dgX_s (d : Nat) : dgX (some d) = nI d := rfl
theorem rm_or {S : Int32} {d : Nat} (hd : d < 32) (h : bt S d = false) : rmI (S ||| ((1 : Int32) <<< (nI d &&& 31))) d = S := by
  apply inc.eq
  · intro i hi
    rw [bt_rmI hd, bt_or, Bool.or_eq_true, bt_one hd] at hi
    rcases hi.1 with z | z
    · exact z
    · exact absurd z hi.2
  · intro i hi
    rw [bt_rmI hd, bt_or, hi, Bool.true_or]
    refine ⟨rfl, fun e => ?_⟩
    rw [e, h] at hi
    contradiction
theorem cnt_or1 {S : Int32} {d : Nat} (hd : d < 14) (h : bt S d = false) : cnt (bt (S ||| ((1 : Int32) <<< (nI d &&& 31)))) 14 = cnt (bt S) 14 + 1 := by
  have := cnt_rm (F := S ||| ((1 : Int32) <<< (nI d &&& 31))) hd (by rw [bt_or, (bt_one (by omega)).mpr rfl, Bool.or_true])
  rw [rm_or (by omega) h] at this
  omega
theorem pt_ok {N : Nat} {tx : Nat → Int32} {n x : Nat} (hn : n ≤ 10) : ∀ l b S S' b', pt N tx n x l b S = (some S', b') → sub S n → bt S x = false → sub S' n ∧ bt S' x = false ∧ cnt (bt S') 14 = cnt (bt S) 14 + l ∧ b' = b + l ∧ (0 < l → b' ≤ N)
  | 0, b, S, S', b', h, hs, hx => by
    have h' : (some S, b) = (some S', b') := h
    injection h' with h1 h2
    injection h1 with h1
    subst h1 h2
    exact ⟨hs, hx, rfl, rfl, fun z => by omega⟩
  | l + 1, b, S, S', b', h, hs, hx => by
    unfold pt at h
    cases e : dgt N tx b with
    | none =>
      rw [e] at h
      simp only at h
      injection h with h1 h2
      contradiction
    | some d =>
      rw [e] at h
      simp only at h
      have hd := dgt_lt e
      split at h
      · rename_i q
        obtain ⟨q1, q2, q3⟩ := q
        have hs' : sub (S ||| ((1 : Int32) <<< (nI d &&& 31))) n := fun i hi => by
          rw [bt_or, Bool.or_eq_true, bt_one (by omega)] at hi
          rcases hi with z | z
          · exact hs i z
          · omega
        have hx' : bt (S ||| ((1 : Int32) <<< (nI d &&& 31))) x = false := by
          rw [bt_or, hx, Bool.false_or]
          cases f : bt ((1 : Int32) <<< (nI d &&& 31)) x
          · rfl
          · exact absurd ((bt_one (by omega)).mp f).symm q2
        obtain ⟨r1, r2, r3, r4, r5⟩ := pt_ok hn l (b + 1) _ S' b' h hs' hx'
        refine ⟨r1, r2, ?_, by omega, fun _ => ?_⟩
        · rw [r3, cnt_or1 (by omega) q3]; omega
        · by_cases z : 0 < l
          · exact r5 z
          · omega
      · injection h with h1 h2
        contradiction
theorem nI_dec (l : Nat) : nI (l + 1) + (-1) = nI l := by
  rw [← nI_1, Int32.add_assoc]
  exact Int32.add_zero _
theorem nI_neg {d : Nat} (h : d < 100000) : ¬ nI d < 0 := nI_pos (by omega)
theorem x_parts {hm : AH} {P : PD} {su : Nat → Nat} {r N : Nat} {tx : Nat → Int32} (hN : N ≤ 80) (hP : P.n ≤ 10) {x M : Nat} (hx : x < 10) (hM : M ≤ 10) : ∀ l F i b S h, l + i = M → l < F → b + l < 900 → DX h P su b → TX h hm r N tx → l_X4_readParts_4 F r (nI x) (nI M) S (nI i) h = some ((pt N tx P.n x l b S).1.getD 0, hsI h 11 0 1 (nI (pt N tx P.n x l b S).2))
  | 0, F + 1, i, b, S, h, hi, _, _, d, t => by
    show b_X4_readParts_4 (l_X4_readParts_4 F) r (nI x) (nI M) S (nI i) h = _
    unfold b_X4_readParts_4
    rw [if_pos (nI_le (by omega) (by omega))]
    show some (S, h) = some (S, hsI h 11 0 1 (nI b))
    rw [← d.2.2, hsI_self]
  | l + 1, F + 1, i, b, S, h, hi, hF, hb, d, t => by
    show b_X4_readParts_4 (l_X4_readParts_4 F) r (nI x) (nI M) S (nI i) h = _
    unfold b_X4_readParts_4
    rw [if_neg (nI_ge (by omega) (by omega)), d.2.2, x_fig t hN (by omega), bd_some, d.1.1]
    cases e : dgt N tx b with
    | none =>
      rw [pt_none e, dgX_n, if_pos (show (-9 : Int32) < 0 by decide)]
      show some (0, h) = some (0, hsI h 11 0 1 (nI b))
      rw [← d.2.2, hsI_self]
    | some q =>
      have hq := dgt_lt e
      rw [pt_some e, dgX_s, if_neg (nI_neg (by omega)), x_has _ (by omega), bd_some, if10, d.2.2, nI_1, nI_1]
      have same : some ((0 : Int32), h) = some (0, hsI h 11 0 1 (nI b)) := by rw [← d.2.2, hsI_self]
      by_cases z1 : q < P.n
      · rw [if_neg (nI_ge z1 (by omega))]
        by_cases z2 : q = x
        · rw [if_pos (by rw [z2]), if_neg (fun w => w.2.1 z2)]
          exact same
        · rw [if_neg (fun w => z2 ((nI_eq (by omega) (by omega)).mp w))]
          by_cases z3 : bt S q = true
          · rw [if_pos z3, if_neg (fun w => by rw [w.2.2] at z3; contradiction)]
            exact same
          · rw [if_neg z3, if_pos ⟨z1, z2, by simpa using z3⟩]
            have t2 : TX (hsI h 11 0 1 (nI (b + 1))) hm r N tx := t.fr (RX.rfl.sI (by omega)) SM.rfl
            rw [x_parts hN hP hx hM l F (i + 1) (b + 1) _ _ (by omega) (by omega) (by omega) (d.at (b + 1)) t2, hsI_hsI]
      · rw [if_pos (nI_le (by omega) (by omega)), if_neg (fun w => z1 w.1)]
        exact same
def tM (r x : Nat) (S : Int32) (g : AH) : Option (Int32 × AH) := b_X12_readsReason_63 (fun _ _ _ _ _ => none) (nI r) (nI x) S 0 g
theorem m_parts {hx : AH} {P : PD} {su : Nat → Nat} {r N : Nat} {tx : Nat → Int32} (hr : r < 4) (hN : N ≤ 80) (hP : P.n ≤ 10) {x : Nat} (hx10 : x < 10) : ∀ l F b S h, l < F → l ≤ 10 → b + l < 900 → DM h P su b → TX hx h r N tx → l_X12_readsReason_63 F (nI r) (nI x) S (nI l) h = match (pt N tx P.n x l b S).1 with | none => some (0, hsI h 34 0 19 (nI (pt N tx P.n x l b S).2)) | some S' => tM r x S' (hsI h 34 0 19 (nI (pt N tx P.n x l b S).2))
  | 0, F + 1, b, S, h, _, _, _, d, t => by
    show b_X12_readsReason_63 (l_X12_readsReason_63 F) (nI r) (nI x) S (nI 0) h = tM r x S (hsI h 34 0 19 (nI b))
    rw [← d.2.2.2.2, hsI_self]
    unfold tM b_X12_readsReason_63
    rw [if_pos (show nI 0 ≤ (0 : Int32) by decide), if_pos (show (0 : Int32) ≤ 0 by decide)]
  | l + 1, F + 1, b, S, h, hF, hl, hb, d, t => by
    show b_X12_readsReason_63 (l_X12_readsReason_63 F) (nI r) (nI x) S (nI (l + 1)) h = _
    unfold b_X12_readsReason_63
    rw [if_neg (fun z => by have := (nI_le0 (show l + 1 < 100000 by omega)).mp z; omega), d.2.2.2.2, m_byte t hr hN (by omega), bd_some, d.1]
    have hw : (if b < N then tx b else 0) - 48 = dgM N tx b := rfl
    rw [hw, m_inn (by omega), bd_some, if10]
    have same : some ((0 : Int32), h) = some (0, hsI h 34 0 19 (nI b)) := by rw [← d.2.2.2.2, hsI_self]
    rcases dgM_cs (N := N) (tx := tx) (a := b) with ⟨q, q10, q1, q2⟩ | ⟨q1, q2⟩
    · rw [pt_some q1, q2, m_has _ (by omega), bd_some, if10, d.2.2.2.2, nI_1, nI_dec, zn0]
      by_cases z1 : q < P.n
      · rw [if_pos (inb_nI z1 (by omega))]
        by_cases z2 : q = x
        · rw [if_pos (by rw [z2]), if_neg (fun w => w.2.1 z2)]
          exact same
        · rw [if_neg (fun w => z2 ((nI_eq (by omega) (by omega)).mp w))]
          by_cases z3 : bt S q = true
          · rw [if_pos z3, if_neg (fun w => by rw [w.2.2] at z3; contradiction)]
            exact same
          · rw [if_neg z3, if_pos ⟨z1, z2, by simpa using z3⟩]
            have t2 : TX hx (hsI h 34 0 19 (nI (b + 1))) r N tx := t.fr RX.rfl (SM.rfl.sI (by omega))
            rw [m_parts hr hN hP hx10 l F (b + 1) _ _ (by omega) (by omega) (by omega) (d.at (b + 1)) t2, hsI_hsI]
      · rw [if_neg (fun w => by have := inb_iff.mp w; rw [nI_toInt (by omega)] at this; omega), if_neg (fun w => z1 w.1)]
        exact same
    · rw [pt_none q1, zn0, if_neg (fun w => by have := inb_iff.mp w; omega)]
      exact same
