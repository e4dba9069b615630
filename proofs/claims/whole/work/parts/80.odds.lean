/-! ===== odds ===== -/
def sN (f : Nat → Nat) : Nat → Nat
  | 0 => 0
  | j + 1 => sN f j + f j
theorem sN_c {f g : Nat → Nat} : ∀ n, (∀ j, j < n → f j = g j) → sN f n = sN g n
  | 0, _ => rfl
  | n + 1, h => by
    show sN f n + f n = sN g n + g n
    rw [sN_c n (fun j hj => h j (by omega)), h n (by omega)]
theorem sN_mul (c : Nat) (f : Nat → Nat) : ∀ n, sN (fun j => c * f j) n = c * sN f n
  | 0 => rfl
  | n + 1 => by
    show sN (fun j => c * f j) n + c * f n = c * (sN f n + f n)
    rw [sN_mul c f n, Nat.mul_add]
theorem sN_cnt {f : Nat → Nat} {P : Nat → Bool} {c : Nat} : ∀ n, (∀ j, j < n → f j ≤ if P j = true then c else 0) → sN f n ≤ cnt P n * c
  | 0, _ => Nat.zero_le _
  | n + 1, h => by
    have ih := sN_cnt (f := f) (P := P) (c := c) n (fun j hj => h j (by omega))
    have h1 := h n (by omega)
    rw [cnt_suc, Nat.add_mul]
    show sN f n + f n ≤ _
    split at h1
    · rename_i e
      rw [if_pos e]; omega
    · rename_i e
      rw [if_neg e]; omega
def pk (p : PD) (k : Nat) : Nat := cnt (bt (p.pa k)) 14
theorem pk3 {p : PD} (v : PV p) {k : Nat} (hk : k < p.m) : 1 ≤ pk p k ∧ pk p k ≤ 3 := by
  have hn := v.n10
  have h := v.2.2.2.1 k hk
  have hs : sub (p.pa k) 14 := sub_up h.2.2.2.1 (by omega)
  have h1 := cnt_ne hs h.2.2.2.2.2.1
  have h2 := cnt14 (n := p.n) (by omega) h.2.2.2.1
  have h3 := h.2.2.2.2.2.2
  unfold pk
  omega
theorem uc4 {p : PD} (v : PV p) (s : SD) (x : Nat) : uc p s x ≤ 4 := by
  have hm := v.m14
  have hs : sub (UF p s x) p.m := sub_ms _ _ (by omega)
  unfold uc
  rw [cnt14 (n := p.m) (by omega) hs]
  refine Nat.le_trans (cnt_mono (Q := fun k => decide (p.co k = x)) (fun i hi => ?_) p.m) (v.2.2.2.2 x)
  rw [bt_UF v, Bool.and_eq_true, Bool.and_eq_true] at hi
  exact hi.2.1
theorem uc_pos {p : PD} (v : PV p) {s : SD} {x k : Nat} (h : bt (UF p s x) k = true) : 0 < uc p s x := by
  refine cnt_ne (sub_UF v s x) (fun z => ?_)
  rw [z, bt_0] at h
  contradiction
theorem d72' : ∀ u, u < 4 → ∀ q, q < 3 → (72 % ((u + 1) * (q + 1)) = 0 ∧ nI 72 / (nI (u + 1) * nI (q + 1)) = nI (72 / ((u + 1) * (q + 1))) ∧ 72 / ((u + 1) * (q + 1)) * (q + 1) ≤ 72 / (u + 1) ∧ (u + 1) * (72 / (u + 1)) ≤ 72) := by decide +kernel
theorem d72 (u : Nat) (hu : u < 5) (q : Nat) (hq : q < 4) (u0 : 0 < u) (q0 : 0 < q) : 72 % (u * q) = 0 ∧ nI 72 / (nI u * nI q) = nI (72 / (u * q)) ∧ 72 / (u * q) * q ≤ 72 / u ∧ u * (72 / u) ≤ 72 := by
  have := d72' (u - 1) (by omega) (q - 1) (by omega)
  rw [show u - 1 + 1 = u by omega, show q - 1 + 1 = q by omega] at this
  exact this
/-- the share that comes to a loss within l answers, in 72nds to the l -/
def Sh (p : PD) (s : SD) : Nat → Nat → Nat
  | 0, x => if bt (LSt p s) x = true then 1 else 0
  | l + 1, x => if bt (LSt p s) x = true then 72 ^ (l + 1) else sN (fun k => if bt (UF p s x) k = true then 72 / (uc p s x * pk p k) * sN (fun z => if bt (p.pa k) z = true then Sh p s l z else 0) p.n else 0) p.m
theorem Sh_le {p : PD} (v : PV p) (s : SD) : ∀ l x, Sh p s l x ≤ 72 ^ l
  | 0, x => by
    show (if bt (LSt p s) x = true then 1 else 0) ≤ 1
    split <;> omega
  | l + 1, x => by
    have hm := v.m14
    have hn := v.n10
    show (if bt (LSt p s) x = true then 72 ^ (l + 1) else sN (fun k => if bt (UF p s x) k = true then 72 / (uc p s x * pk p k) * sN (fun z => if bt (p.pa k) z = true then Sh p s l z else 0) p.n else 0) p.m) ≤ 72 ^ (l + 1)
    split
    · exact Nat.le_refl _
    · have h1 : sN (fun k => if bt (UF p s x) k = true then 72 / (uc p s x * pk p k) * sN (fun z => if bt (p.pa k) z = true then Sh p s l z else 0) p.n else 0) p.m ≤ cnt (bt (UF p s x)) p.m * (72 / uc p s x * 72 ^ l) := by
        apply sN_cnt
        intro k hk
        by_cases e : bt (UF p s x) k = true
        · rw [if_pos e, if_pos e]
          have hp := pk3 v hk
          have hu := uc_pos v e
          obtain ⟨-, -, q3, -⟩ := d72 (uc p s x) (by have := uc4 v s x; omega) (pk p k) (by omega) hu (by omega)
          have h2 : sN (fun z => if bt (p.pa k) z = true then Sh p s l z else 0) p.n ≤ cnt (bt (p.pa k)) p.n * 72 ^ l := by
            apply sN_cnt
            intro z hz
            split
            · exact Sh_le v s l z
            · omega
          have h3 : cnt (bt (p.pa k)) p.n = pk p k := by
            unfold pk
            rw [cnt14 (n := p.n) (by omega) (v.pan hk)]
          rw [h3] at h2
          refine Nat.le_trans (Nat.mul_le_mul_left _ h2) ?_
          rw [← Nat.mul_assoc]
          exact Nat.mul_le_mul_right _ q3
        · rw [if_neg e, if_neg e]; omega
      have h2 : cnt (bt (UF p s x)) p.m ≤ uc p s x := cnt_up' _ (by omega)
      by_cases u0 : uc p s x = 0
      · rw [u0] at h2
        have h3 : cnt (bt (UF p s x)) p.m = 0 := by omega
        rw [h3, Nat.zero_mul] at h1
        exact Nat.le_trans h1 (Nat.zero_le _)
      · obtain ⟨-, -, -, q4⟩ := d72 (uc p s x) (by have := uc4 v s x; omega) 1 (by omega) (by omega) (by omega)
        refine Nat.le_trans h1 ?_
        refine Nat.le_trans (Nat.mul_le_mul_right _ h2) ?_
        rw [← Nat.mul_assoc, Nat.pow_succ, Nat.mul_comm (72 ^ l)]
        exact Nat.mul_le_mul_right _ q4
theorem bc_pa {p : PD} (v : PV p) {k : Nat} (hk : k < p.m) : bc (p.pa k) = nI (pk p k) := bc_eq (n := 14) (by omega) (sub_up (v.pan hk) (by have := v.n10; omega))
def SL (h : AH) (p : PD) (q : Nat) (f : Nat → Nat) : Prop := ∀ y, y < p.n → h.2 q 0 y = nL (f y)
theorem x_byParts {h : AH} {p : PD} {s : SD} (c : XC h p s) {f : Nat → Nat} (hf : SL h p 31 f) {k : Nat} (hk : k < p.m) : f_X2_shareByParts (nI k) h = some (nL (sN (fun z => if bt (p.pa k) z = true then f z else 0) p.n), h) := by
  have hn := c.1.n10
  have hm := c.1.m14
  unfold f_X2_shareByParts
  have := lp0 (fun F j => l_X2_shareByParts_4 F (nI k) (nL (sN (fun z => if bt (p.pa k) z = true then f z else 0) j)) (nI j) h) p.n (some (nL (sN (fun z => if bt (p.pa k) z = true then f z else 0) p.n), h)) (by
    intro F j hj
    show b_X2_shareByParts_4 (l_X2_shareByParts_4 F) (nI k) _ (nI j) h = l_X2_shareByParts_4 F (nI k) (nL (sN (fun z => if bt (p.pa k) z = true then f z else 0) j + (if bt (p.pa k) j = true then f j else 0))) (nI (j + 1)) h
    unfold b_X2_shareByParts_4
    rw [c.n, if_neg (nI_ge hj (by omega)), if_pos (inb_nI (show k < 14 by omega) (by omega)), nI_cl (show k < 100000 by omega), c.pa hk, x_has _ (by omega), bd_some, if10, if_pos (inb_nI (show j < 10 by omega) (by omega)), nI_cl (show j < 100000 by omega), hf j hj, nI_1, nL_add, show (0 : Int64) = nL 0 from rfl, nL_add]
    by_cases e : bt (p.pa k) j = true
    · rw [if_pos e, if_pos e]
    · rw [if_neg e, if_neg e]) (by
    intro F
    show b_X2_shareByParts_4 (l_X2_shareByParts_4 F) (nI k) _ (nI p.n) h = _
    unfold b_X2_shareByParts_4
    rw [c.n, if_pos (Int32.le_refl _)]) (by omega)
  have this' : l_X2_shareByParts_4 FU (nI k) 0 0 h = some (nL (sN (fun z => if bt (p.pa k) z = true then f z else 0) p.n), h) := this
  rw [this']
  rfl
def byR (p : PD) (s : SD) (f : Nat → Nat) (x : Nat) : Nat → Nat := sN (fun k => if bt (UF p s x) k = true then 72 / (uc p s x * pk p k) * sN (fun z => if bt (p.pa k) z = true then f z else 0) p.n else 0)
theorem x_byReasons {h : AH} {p : PD} {s : SD} (c : XC h p s) {f : Nat → Nat} (hf : SL h p 31 f) {x : Nat} (hx : x < 32) : f_X2_shareByReasons (nI x) h = some (nL (byR p s f x p.m), h) := by
  have hn := c.1.n10
  have hm := c.1.m14
  unfold f_X2_shareByReasons
  rw [x_usableFor c hx, bd_some, x_bc, bd_some, bc_UF c.1]
  have := lp0 (fun F j => l_X2_shareByReasons_12 F (UF p s x) (nI (uc p s x)) (nL (byR p s f x j)) (nI j) h) p.m (some (nL (byR p s f x p.m), h)) (by
    intro F j hj
    show b_X2_shareByReasons_12 (l_X2_shareByReasons_12 F) (UF p s x) (nI (uc p s x)) _ (nI j) h = l_X2_shareByReasons_12 F (UF p s x) (nI (uc p s x)) (nL (byR p s f x j + (if bt (UF p s x) j = true then 72 / (uc p s x * pk p j) * sN (fun z => if bt (p.pa j) z = true then f z else 0) p.n else 0))) (nI (j + 1)) h
    have hp := pk3 c.1 hj
    have hu4 := uc4 c.1 s x
    unfold b_X2_shareByReasons_12
    rw [c.m, if_neg (nI_ge hj (by omega)), if_pos (inb_nI (show j < 14 by omega) (by omega)), nI_cl (show j < 100000 by omega), c.pa hj, x_bc, bd_some, bc_pa c.1 hj, x_has _ (by omega), bd_some, if10, x_byParts c hf hj, bd_some, nI_1]
    by_cases e : bt (UF p s x) j = true
    · have hu := uc_pos c.1 e
      obtain ⟨q1, q2, -, -⟩ := d72 (uc p s x) (by omega) (pk p j) (by omega) hu (by omega)
      have hq : 0 < uc p s x * pk p j := Nat.mul_pos hu (by omega)
      have hq2 : uc p s x * pk p j ≤ 4 * 3 := Nat.mul_le_mul hu4 hp.2
      have hd : 72 / (uc p s x * pk p j) ≤ 72 := Nat.div_le_self _ _
      rw [if_pos e, if_pos e, show (72 : Int32) = nI 72 from rfl, q2, nI_mul, if_neg (fun z => by have := (nI_le0 (by omega)).mp z; omega), if_neg (fun z => by have := (nI_eq0 (by omega)).mp z; omega), nI_nL (by omega), nL_mul, nL_add]
    · rw [if_neg e, if_neg e]; rfl) (by
    intro F
    show b_X2_shareByReasons_12 (l_X2_shareByReasons_12 F) (UF p s x) (nI (uc p s x)) _ (nI p.m) h = _
    unfold b_X2_shareByReasons_12
    rw [c.m, if_pos (Int32.le_refl _)]) (by omega)
  have this' : l_X2_shareByReasons_12 FU (UF p s x) (nI (uc p s x)) 0 0 h = some (nL (byR p s f x p.m), h) := this
  rw [this']
  rfl
