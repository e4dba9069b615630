/-! ===== a run by its blocks: Sim ===== -/
section SIM
variable {P : Nat → List IE} {C : List IE} {d n : Nat}
theorem step_no {C : List IE} {x y : Cf} (h : step C x = some y) : ∃ pc ln op ins a b c e v w ts ks, cget C x.1 = (pc, ln, op, ins, a, b, c, e, v, w, ts, ks) ∧ op < 37 := by
  rcases hX : cget C x.1 with ⟨pc, ln, op, ins, a, b, c, e, v, w, ts, ks⟩
  refine ⟨pc, ln, op, ins, a, b, c, e, v, w, ts, ks, rfl, ?_⟩
  unfold step at h
  rw [hX] at h
  by_cases hop : op < 37
  · exact hop
  · exfalso
    obtain ⟨k, rfl⟩ : ∃ k, op = k + 37 := ⟨op - 37, by omega⟩
    exact absurd (show (none : Option Cf) = some y from h) (by simp)
theorem run_step {x y : Cf} (h : step C x = some y) : run P (n + 1) d C x = run P n d C y := by
  obtain ⟨pc, ln, op, ins, a, b, c, e, v, w, ts, ks, hX, hop⟩ := step_no h
  simp only [run, hX]
  split <;> first | omega | (simp only [h])
theorem run_mono : ∀ (n d : Nat) (C : List IE) (x : Cf) (res : Rs), run P n d C x = some res → ∀ n' d', n ≤ n' → d ≤ d' → run P n' d' C x = some res := by
  intro n
  induction n with
  | zero => intro d C x res h; cases h
  | succ n ih =>
    intro d C x res h n' d' hn hd
    obtain ⟨n2, rfl⟩ : ∃ n2, n' = n2 + 1 := ⟨n' - 1, by omega⟩
    have hn2 : n ≤ n2 := by omega
    rcases hX : cget C x.1 with ⟨pc, ln, op, ins, a, b, c, e, v, w, ts, ks⟩
    simp only [run, hX] at h ⊢
    split at h
    · split at h
      · cases h
      · rename_i d0
        obtain ⟨d1, rfl⟩ : ∃ d1, d' = d1 + 1 := ⟨d' - 1, by omega⟩
        simp only
        split at h
        · rename_i as rest hpop
          split at h
          · rename_i hb
            try simp only [hb]
            split at h
            · rename_i r1 h1 hr1
              rw [ih d0 _ _ _ hr1 n2 d1 hn2 (by omega)]
              exact ih (d0 + 1) _ _ _ h n2 (d1 + 1) hn2 (by omega)
            · cases h
          · cases h
        · cases h
    · split at h
      · cases h
      · rename_i d0
        obtain ⟨d1, rfl⟩ : ∃ d1, d' = d1 + 1 := ⟨d' - 1, by omega⟩
        simp only
        split at h
        · rename_i as rest hpop
          split at h
          · rename_i hb
            try simp only [hb]
            split at h
            · rename_i r1 h1 hr1
              rw [ih d0 _ _ _ hr1 n2 d1 hn2 (by omega)]
              exact ih (d0 + 1) _ _ _ h n2 (d1 + 1) hn2 (by omega)
            · cases h
          · cases h
        · cases h
    · exact h
    · exact h
    · exact h
    · exact h
    · split at h
      · rename_i y hy
        try simp only [hy]
        exact ih d _ _ _ h n2 d' hn2 hd
      · cases h
def Runs (P : Nat → List IE) (d : Nat) (C : List IE) (x : Cf) (res : Rs) : Prop := ∃ n, run P n d C x = some res
theorem Runs.mono {x : Cf} {res : Rs} {d d' : Nat} (h : Runs P d C x res) (hd : d ≤ d') : Runs P d' C x res := by
  obtain ⟨n, hn⟩ := h
  exact ⟨n, run_mono n d C x res hn n d' (Nat.le_refl _) hd⟩
theorem Runs.step {x y : Cf} {res : Rs} (h : step C x = some y) (hr : Runs P d C y res) : Runs P d C x res := by
  obtain ⟨n, hn⟩ := hr
  exact ⟨n + 1, by rw [run_step h]; exact hn⟩
theorem Runs.steps : ∀ (k : Nat) {x y : Cf} {res : Rs}, steps C k x = some y → Runs P d C y res → Runs P d C x res
  | 0, x, y, res, h, hr => by cases h; exact hr
  | 1, x, y, res, h, hr => hr.step h
  | k + 2, x, y, res, h, hr => by
    simp only [Jvm.Pilot.@@N@@.steps] at h
    split at h
    · rename_i z hz
      exact (Runs.steps (k + 1) h hr).step hz
    · cases h
abbrev ksA (C : List IE) (ix : Nat) : List Nat := (cget C ix).2.2.2.2.2.2.2.2.2.2.2
theorem run_norm {ix : Nat} {L1 L2 st : List AV} {h : AH} (hk : clr (ksA C ix) L1 = clr (ksA C ix) L2) : run P n d C (ix, L1, st, h) = run P n d C (ix, L2, st, h) := by
  cases n with
  | zero => rfl
  | succ n =>
    have hs : step C (ix, L1, st, h) = step C (ix, L2, st, h) := by
      unfold step
      rcases hX : cget C ix with ⟨pc, ln, op, ins, a, b, c, e, v, w, ts, ks⟩
      simp only [ksA, hX] at hk ⊢
      rw [hk]
    rcases hX : cget C ix with ⟨pc, ln, op, ins, a, b, c, e, v, w, ts, ks⟩
    simp only [ksA, hX] at hk
    simp only [run, hX, hs, hk]
/-- T, where it answers y, leads from x to every end that Φ takes for y -/
def Sim {ρ : Type} (P : Nat → List IE) (d : Nat) (C : List IE) (x : Cf) (T : Option (ρ × AH)) (Φ : ρ × AH → Rs → Prop) : Prop := ∀ y, T = some y → ∀ res, Φ y res → Runs P d C x res
def fI (y : Int32 × AH) (res : Rs) : Prop := res = (some (.int y.1), y.2)
def fL (y : Int64 × AH) (res : Rs) : Prop := res = (some (.long y.1), y.2)
def fV (y : Unit × AH) (res : Rs) : Prop := res = (none, y.2)
def fE {ρ : Type} (P : Nat → List IE) (d : Nat) (C : List IE) (E : Nat) (L : ρ → List AV) (y : ρ × AH) (res : Rs) : Prop := Runs P d C (E, L y.1, [], y.2) res
variable {ρ σ : Type} {Φ : ρ × AH → Rs → Prop} {x : Cf} {T : Option (ρ × AH)}
theorem S_blk (k : Nat) (y : Cf) (hb : steps C k x = some y) (h : Sim P d C y T Φ) : Sim P d C x T Φ := fun z hz res hr => Runs.steps k hb (h z hz res hr)
theorem S_ite {c : Prop} {ic : Decidable c} {t f : Nat} {L st : List AV} {h : AH} {T1 T2 : Option (ρ × AH)} (h1 : c → Sim P d C (t, L, st, h) T1 Φ) (h2 : ¬ c → Sim P d C (f, L, st, h) T2 Φ) : Sim P d C (if c then t else f, L, st, h) (if c then T1 else T2) Φ := by
  by_cases hc : c
  · rw [if_pos hc, if_pos hc]; exact h1 hc
  · rw [if_neg hc, if_neg hc]; exact h2 hc
/-- a block, then a branch -/
theorem S_br (k : Nat) {c : Prop} {ic : Decidable c} (t f : Nat) (L st : List AV) (h : AH) {T1 T2 : Option (ρ × AH)} (hb : steps C k x = some (if c then t else f, L, st, h)) (h1 : c → Sim P d C (t, L, st, h) T1 Φ) (h2 : ¬ c → Sim P d C (f, L, st, h) T2 Φ) : Sim P d C x (if c then T1 else T2) Φ := S_blk k _ hb (S_ite h1 h2)
/-- a block, then a branch of which one side can't be -/
theorem S_bt (k : Nat) {c : Prop} {ic : Decidable c} (t f : Nat) (L st : List AV) (h : AH) (hb : steps C k x = some (if c then t else f, L, st, h)) (hc : c) (h1 : Sim P d C (t, L, st, h) T Φ) : Sim P d C x T Φ := S_blk k (t, L, st, h) (by rw [hb, if_pos hc]) h1
theorem S_bf (k : Nat) {c : Prop} {ic : Decidable c} (t f : Nat) (L st : List AV) (h : AH) (hb : steps C k x = some (if c then t else f, L, st, h)) (hc : ¬ c) (h1 : Sim P d C (f, L, st, h) T Φ) : Sim P d C x T Φ := S_blk k (f, L, st, h) (by rw [hb, if_neg hc]) h1
theorem S_grd (k : Nat) {c : Prop} {ic : Decidable c} (y : Cf) (hb : steps C k x = if c then some y else none) (h1 : c → Sim P d C y T Φ) : Sim P d C x (if c then T else none) Φ := by
  by_cases hc : c
  · rw [if_pos hc] at hb ⊢
    exact S_blk k y hb (h1 hc)
  · rw [if_neg hc]
    intro z hz
    cases hz
theorem S_grn (k : Nat) {c : Prop} {ic : Decidable c} (y : Cf) (hb : steps C k x = if c then none else some y) (h1 : ¬ c → Sim P d C y T Φ) : Sim P d C x (if c then none else T) Φ := by
  by_cases hc : c
  · rw [if_pos hc]
    intro z hz
    cases hz
  · rw [if_neg hc] at hb ⊢
    exact S_blk k y hb (h1 hc)
/-- a block up to a loop's head, or behind it: what is dead is forgotten -/
theorem S_nrm {ix : Nat} {L1 st : List AV} {h : AH} (L2 : List AV) (hk : clr (ksA C ix) L1 = clr (ksA C ix) L2) (h1 : Sim P d C (ix, L2, st, h) T Φ) : Sim P d C (ix, L1, st, h) T Φ := fun z hz res hr => by
  obtain ⟨n, hn⟩ := h1 z hz res hr
  exact ⟨n, by rw [run_norm hk]; exact hn⟩
theorem S_exit {ix : Nat} {L1 st : List AV} {h : AH} (v : ρ) (L : ρ → List AV) (hk : clr (ksA C ix) L1 = clr (ksA C ix) (L v)) : Sim P d C (ix, L1, [], h) (some (v, h)) (fE P d C ix L) := fun z hz res hr => by
  cases hz
  obtain ⟨n, hn⟩ := hr
  exact ⟨n, by rw [run_norm hk]; exact hn⟩
theorem S_none : Sim P d C x (none : Option (ρ × AH)) Φ := fun z hz => by cases hz
/-- a loop that ends at E with L -/
theorem S_loop {T1 : Option (σ × AH)} {K : σ × AH → Option (ρ × AH)} (E : Nat) (L : σ → List AV) (h1 : Sim P d C x T1 (fE P d C E L)) (h2 : ∀ (v : σ) (h : AH), Sim P d C (E, L v, [], h) (K (v, h)) Φ) : Sim P d C x (T1.bind K) Φ := by
  intro z hz res hr
  cases hT : T1 with
  | none => rw [hT] at hz; cases hz
  | some y =>
    rw [hT] at hz
    exact h1 y hT res (h2 y.1 y.2 z hz res hr)
def callX (C : List IE) (ix : Nat) (L st : List AV) : Option (Nat × List AV × List AV × List AV) := match cget C ix with
  | (_, _, op, _, a, b, c, _, _, _, ts, ks) => match op with
    | 40 => match pop b [] st with
      | some (args, rest) => match Nat.ble (wsm rest) 8 && Nat.ble (lay1 args).length c with
        | true => some (a, mkL c args, clr ks L, rest)
        | false => none
      | none => none
    | 41 => match pop b [] st with
      | some (args, rest) => match Nat.ble (wsm rest) 8 && Nat.ble (lay1 args).length c && isCl (tsC ts) args with
        | true => some (a, mkL c args, clr ks L, rest)
        | false => none
      | none => none
    | _ => none
theorem run_call {ix a : Nat} {L st L0 L' rest : List AV} {h : AH} (hc : callX C ix L st = some (a, L0, L', rest)) (r : Option Value) (h' : AH) (hr : run P n d (P a) (0, L0, [], h) = some (r, h')) : run P (n + 1) (d + 1) C (ix, L, st, h) = run P n (d + 1) C (ix + 1, L', rst r rest, h') := by
  unfold callX at hc
  rcases hX : cget C ix with ⟨pc, ln, op, ins, a, b, c, e, v, w, ts, ks⟩
  simp only [hX] at hc
  simp only [run, hX]
  split at hc
  · simp only
    split at hc
    · rename_i as rs hp
      simp only [hp]
      split at hc
      · rename_i hb
        cases hc
        simp only [hb, hr]
      · cases hc
    · cases hc
  · simp only
    split at hc
    · rename_i as rs hp
      simp only [hp]
      split at hc
      · rename_i hb
        cases hc
        simp only [hb, hr]
      · cases hc
    · cases hc
  · cases hc
theorem Runs.call {ix a dc : Nat} {L st L0 L' rest : List AV} {h h' : AH} {C' : List IE} {r : Option Value} {res : Rs} (hc : callX C ix L st = some (a, L0, L', rest)) (hp : P a = C') (hd : dc + 1 ≤ d) (hr : Runs P dc C' (0, L0, [], h) (r, h')) (hk : Runs P d C (ix + 1, L', rst r rest, h') res) : Runs P d C (ix, L, st, h) res := by
  subst hp
  obtain ⟨d1, rfl⟩ : ∃ d1, d = d1 + 1 := ⟨d - 1, by omega⟩
  obtain ⟨n1, h1⟩ := hr
  obtain ⟨n2, h2⟩ := hk
  refine ⟨max n1 n2 + 1, ?_⟩
  rw [run_call hc r h' (run_mono n1 dc _ _ _ h1 (max n1 n2) d1 (Nat.le_max_left _ _) (by omega))]
  exact run_mono n2 (d1 + 1) _ _ _ h2 (max n1 n2) (d1 + 1) (Nat.le_max_right _ _) (Nat.le_refl _)
theorem S_ci (k ix a dc : Nat) {C' : List IE} (L st L0 L' rest : List AV) (h : AH) {T1 : Option (Int32 × AH)} {K : Int32 × AH → Option (ρ × AH)} (hb : steps C k x = some (ix, L, st, h)) (hc : callX C ix L st = some (a, L0, L', rest)) (hp : P a = C') (hd : dc + 1 ≤ d) (h1 : Sim P dc C' (0, L0, [], h) T1 fI) (h2 : ∀ (r : Int32) (h' : AH), Sim P d C (ix + 1, L', .inl (.int r) :: rest, h') (K (r, h')) Φ) : Sim P d C x (T1.bind K) Φ := by
  intro z hz res hr
  cases hT : T1 with
  | none => rw [hT] at hz; cases hz
  | some y =>
    rw [hT] at hz
    exact Runs.steps k hb (Runs.call hc hp hd (h1 y hT _ rfl) (h2 y.1 y.2 z hz res hr))
theorem S_cl (k ix a dc : Nat) {C' : List IE} (L st L0 L' rest : List AV) (h : AH) {T1 : Option (Int64 × AH)} {K : Int64 × AH → Option (ρ × AH)} (hb : steps C k x = some (ix, L, st, h)) (hc : callX C ix L st = some (a, L0, L', rest)) (hp : P a = C') (hd : dc + 1 ≤ d) (h1 : Sim P dc C' (0, L0, [], h) T1 fL) (h2 : ∀ (r : Int64) (h' : AH), Sim P d C (ix + 1, L', .inl (.long r) :: rest, h') (K (r, h')) Φ) : Sim P d C x (T1.bind K) Φ := by
  intro z hz res hr
  cases hT : T1 with
  | none => rw [hT] at hz; cases hz
  | some y =>
    rw [hT] at hz
    exact Runs.steps k hb (Runs.call hc hp hd (h1 y hT _ rfl) (h2 y.1 y.2 z hz res hr))
theorem S_cv (k ix a dc : Nat) {C' : List IE} (L st L0 L' rest : List AV) (h : AH) {T1 : Option (Unit × AH)} {K : Unit × AH → Option (ρ × AH)} (hb : steps C k x = some (ix, L, st, h)) (hc : callX C ix L st = some (a, L0, L', rest)) (hp : P a = C') (hd : dc + 1 ≤ d) (h1 : Sim P dc C' (0, L0, [], h) T1 fV) (h2 : ∀ (r : Unit) (h' : AH), Sim P d C (ix + 1, L', rest, h') (K (r, h')) Φ) : Sim P d C x (T1.bind K) Φ := by
  intro z hz res hr
  cases hT : T1 with
  | none => rw [hT] at hz; cases hz
  | some y =>
    rw [hT] at hz
    exact Runs.steps k hb (Runs.call hc hp hd (h1 y hT _ rfl) (h2 y.1 y.2 z hz res hr))
theorem S_ret (k : Nat) (y : Cf) {z : ρ × AH} {res : Rs} (hb : steps C k x = some y) (hr : run P 1 d C y = some res) (hΦ : ∀ res', Φ z res' → res' = res) : Sim P d C x (some z) Φ := by
  intro z' hz res' hr'
  cases hz
  rw [hΦ res' hr']
  exact Runs.steps k hb ⟨1, hr⟩
theorem S_ri (k : Nat) (y : Cf) {v : Int32} {h : AH} (hb : steps C k x = some y) (hr : run P 1 d C y = some (some (.int v), h)) : Sim P d C x (some (v, h)) fI := S_ret k y hb hr (fun _ e => e)
theorem S_rl (k : Nat) (y : Cf) {v : Int64} {h : AH} (hb : steps C k x = some y) (hr : run P 1 d C y = some (some (.long v), h)) : Sim P d C x (some (v, h)) fL := S_ret k y hb hr (fun _ e => e)
theorem S_rv (k : Nat) (y : Cf) {h : AH} (hb : steps C k x = some y) (hr : run P 1 d C y = some (none, h)) : Sim P d C x (some ((), h)) fV := S_ret k y hb hr (fun _ e => e)
end SIM
