/-! ===== the run ===== -/
section RUN
variable {p : Program} {l : Launch} {e0 : Env} {R : Room} {s : State} {m : MethodId} {args : Array Value} {below : List Frame} {meth : Method} {cd : Code} {Q : State → Prop}
variable {dC : Nat → ClassId} {dI : Nat → Nat → Nat} {dA : Nat → ClassId} {q : Nat → Nat → Nat} {wl : List (Nat × Nat)} {A : Nat → Prop} {nL : Nat} {bytes : ByteArray} {own : String} {C : List IE}
variable {ret : Option FieldType} {MT : List MD} {FL ML : FLT} {CI : CIT} {CJ : CJT}
set_option maxHeartbeats 4000000 in
set_option maxRecDepth 100000 in
theorem sn_op (X : Cx p s m args meth cd dC dI dA own bytes nL ret) (hFL : ∀ t ∈ FL, FLok t) (hML : ∀ t ∈ ML, MLok MT t) (hCI : ∀ t ∈ CI, Cond.constant t.1 t.2.1 t.2.2 ∈ lw_g) (hCJ : ∀ t ∈ CJ, Cond.constantLong t.1 t.2.1 t.2.2 ∈ lw_g) (hW : WOK wl) (hR : 1 ≤ R.frames ∧ 60 ≤ R.locals) {pc ln op a b c e ix : Nat} {ins : Instr} {v : Int32} {w : Int64} {ts : List (Int32 × Nat)} {ks : List Nat} {L st : List AV} {h : AH} {y : Cf} (hpc : pc = pcA C ix) (hd : decode bytes pc = .ok (ins, ln))
    (ho : okO MT FL ML CI CJ own C ix (pc, ln, op, ins, a, b, c, e, v, w, ts, ks) = true) (hnx : nxO C ix (pc, ln, op, ins, a, b, c, e, v, w, ts, ks) = true) (hlc : lcO nL (pc, ln, op, ins, a, b, c, e, v, w, ts, ks) = true)
    (hs : stepI op a b c e v w ts ix L st h = some y) (hy : At_ p l e0 R s m args below meth cd Q dC dI dA q wl A nL C y) : At_ p l e0 R s m args below meth cd Q dC dI dA q wl A nL C (ix, L, st, h) := by
  subst hpc
  simp only [nxO, Bool.or_eq_true, decide_eq_true_eq] at hnx
  have hn : op ≠ 21 → op ≠ 35 → op < 50 → pcA C (ix + 1) = pcA C ix + ln := fun h1 h2 h3 => by
    rcases hnx with ((h9 | h9) | h9) | h9
    · exact absurd h9 h1
    · omega
    · exact absurd h9 h2
    · exact h9
  match op, hd, ho, hlc, hs, hn with
  | 0, hd, ho, hlc, hs, hn => exact sn_0 X hCI hd ho (hn (by decide) (by decide) (by decide)) hs hy
  | 1, hd, ho, hlc, hs, hn => exact sn_1 X hCJ hd ho (hn (by decide) (by decide) (by decide)) hs hy
  | 2, hd, ho, hlc, hs, hn => exact sn_2 X hd ho (hn (by decide) (by decide) (by decide)) hs hy
  | 3, hd, ho, hlc, hs, hn => exact sn_3 X hd ho (hn (by decide) (by decide) (by decide)) hs hy
  | 4, hd, ho, hlc, hs, hn => exact sn_4 X hd ho (hn (by decide) (by decide) (by decide)) hs hy
  | 5, hd, ho, hlc, hs, hn => exact sn_5 X (by simpa [lcO] using hlc) hd ho (hn (by decide) (by decide) (by decide)) hs hy
  | 6, hd, ho, hlc, hs, hn => exact sn_6 X (by simpa [lcO] using hlc) hd ho (hn (by decide) (by decide) (by decide)) hs hy
  | 7, hd, ho, hlc, hs, hn => exact sn_7 X (by simpa [lcO] using hlc) hd ho (hn (by decide) (by decide) (by decide)) hs hy
  | 8, hd, ho, hlc, hs, hn => exact sn_8 X (by simpa [lcO] using hlc) hd ho (hn (by decide) (by decide) (by decide)) hs hy
  | 9, hd, ho, hlc, hs, hn => exact sn_9 X hd ho (hn (by decide) (by decide) (by decide)) hs hy
  | 10, hd, ho, hlc, hs, hn => exact sn_10 X hd ho (hn (by decide) (by decide) (by decide)) hs hy
  | 11, hd, ho, hlc, hs, hn => exact sn_11 X hd ho (hn (by decide) (by decide) (by decide)) hs hy
  | 12, hd, ho, hlc, hs, hn => exact sn_12 X hd ho (hn (by decide) (by decide) (by decide)) hs hy
  | 13, hd, ho, hlc, hs, hn => exact sn_13 X hd ho (hn (by decide) (by decide) (by decide)) hs hy
  | 14, hd, ho, hlc, hs, hn => exact sn_14 X hd ho (hn (by decide) (by decide) (by decide)) hs hy
  | 15, hd, ho, hlc, hs, hn => exact sn_15 X hd ho (hn (by decide) (by decide) (by decide)) hs hy
  | 16, hd, ho, hlc, hs, hn => exact sn_16 X hd ho (hn (by decide) (by decide) (by decide)) hs hy
  | 17, hd, ho, hlc, hs, hn => exact sn_17 X hd ho (hn (by decide) (by decide) (by decide)) hs hy
  | 18, hd, ho, hlc, hs, hn => exact sn_18 X hd ho (hn (by decide) (by decide) (by decide)) hs hy
  | 19, hd, ho, hlc, hs, hn => exact sn_19 X hd ho (hn (by decide) (by decide) (by decide)) hs hy
  | 20, hd, ho, hlc, hs, hn => exact sn_20 X hd ho (hn (by decide) (by decide) (by decide)) hs hy
  | 21, hd, ho, hlc, hs, hn => exact sn_21 X hd ho hs hy
  | 22, hd, ho, hlc, hs, hn => exact sn_22 X hFL hW hd ho (hn (by decide) (by decide) (by decide)) hs hy
  | 23, hd, ho, hlc, hs, hn => exact sn_23 X hFL hW hd ho (hn (by decide) (by decide) (by decide)) hs hy
  | 24, hd, ho, hlc, hs, hn => exact sn_24 X hW hd ho (hn (by decide) (by decide) (by decide)) hs hy
  | 25, hd, ho, hlc, hs, hn => exact sn_25 X hW hd ho (hn (by decide) (by decide) (by decide)) hs hy
  | 26, hd, ho, hlc, hs, hn => exact sn_26 X hW hd ho (hn (by decide) (by decide) (by decide)) hs hy
  | 27, hd, ho, hlc, hs, hn => exact sn_27 X hW hd ho (hn (by decide) (by decide) (by decide)) hs hy
  | 28, hd, ho, hlc, hs, hn => exact sn_28 X hW hd ho (hn (by decide) (by decide) (by decide)) hs hy
  | 29, hd, ho, hlc, hs, hn => exact sn_29 X hW hd ho (hn (by decide) (by decide) (by decide)) hs hy
  | 30, hd, ho, hlc, hs, hn => exact sn_30 X hW hd ho (hn (by decide) (by decide) (by decide)) hs hy
  | 31, hd, ho, hlc, hs, hn => exact sn_31 X hW hd ho (hn (by decide) (by decide) (by decide)) hs hy
  | 32, hd, ho, hlc, hs, hn => exact sn_32 X hd ho (hn (by decide) (by decide) (by decide)) hs hy
  | 33, hd, ho, hlc, hs, hn => exact sn_33 X hd ho (hn (by decide) (by decide) (by decide)) hs hy
  | 34, hd, ho, hlc, hs, hn => exact sn_34 X hd ho (hn (by decide) (by decide) (by decide)) hs hy
  | 35, hd, ho, hlc, hs, hn => exact sn_35 X hd ho hs hy
  | 36, hd, ho, hlc, hs, hn => exact sn_36 X hML hW hR hd ho (hn (by decide) (by decide) (by decide)) hs hy
  | n + 37, hd, ho, hlc, hs, hn => exact absurd (show (none : Option Cf) = some y from hs) (by simp)
theorem cget_out : ∀ (C : List IE) (ix : Nat), C.length ≤ ix → cget C ix = ie0
  | [], _, _ => rfl
  | _ :: r, 0, h => by simp at h
  | _ :: r, ix + 1, h => cget_out r ix (by simpa using h)
theorem okM_at {own : String} {y : MethodName} {bytes : ByteArray} {nL : Nat} {ret : Option FieldType} {C : List IE} {ix : Nat} (h : okM MT FL ML CI CJ (own, y, bytes, nL, ret, C) = true) (hix : ix < C.length) :
    decode bytes (pcA C ix) = .ok ((cget C ix).2.2.2.1, (cget C ix).2.1) ∧ okO MT FL ML CI CJ own C ix (cget C ix) = true ∧ nxO C ix (cget C ix) = true ∧ rtO ret (cget C ix) = true ∧ lcO nL (cget C ix) = true := by
  unfold okM at h
  have h1 := List.all_eq_true.mp h ix (List.mem_range.mpr hix)
  simp only [Bool.and_eq_true, decide_eq_true_eq] at h1
  obtain ⟨⟨⟨⟨h1, h2⟩, h3⟩, h4⟩, h5⟩ := h1
  exact ⟨h1, h2, h3, h4, h5⟩
theorem At_clr {x : Cf} {ks : List Nat} (h : At_ p l e0 R s m args below meth cd Q dC dI dA q wl A nL C (x.1, clr ks x.2.1, x.2.2.1, x.2.2.2)) : At_ p l e0 R s m args below meth cd Q dC dI dA q wl A nL C x := by
  intro hL hst hlen ls H locs hl hw
  exact h (VO.clr ks hL) hst (by rw [← hlen]; exact clr_len ks _) ls H locs (lv_clr ks hl) hw
theorem rst_map (r : Option Value) (rest : List AV) : (rst r rest).map (cvv q) = r.toList ++ rest.map (cvv q) := by
  cases r <;> rfl
def rOK (r : Option Value) : Prop := r = none ∨ (∃ x, r = some (.int x)) ∨ ∃ x, r = some (.long x)
theorem rst_VO {r : Option Value} {rest : List AV} (hr : rOK r) (h : VO wl rest) : VO wl (rst r rest) := by
  rcases hr with rfl | ⟨x, rfl⟩ | ⟨x, rfl⟩
  · exact h
  · exact VO.int h
  · exact VO.long h
set_option maxHeartbeats 4000000 in
theorem run_rOK (P : Nat → List IE) : ∀ (n d : Nat) (C : List IE) (x : Cf) (r : Option Value) (h : AH), run P n d C x = some (r, h) → rOK r := by
  intro n
  induction n with
  | zero => intro d C x r h hr; cases hr
  | succ n ih =>
    intro d C x r h hr
    unfold run at hr
    rcases hX : cget C x.1 with ⟨pc, ln, op, ins, a, b, c, e, v, w, ts, ks⟩
    simp only [hX] at hr
    split at hr
    · split at hr
      · cases hr
      · split at hr
        · split at hr
          · split at hr
            · exact ih _ _ _ _ _ hr
            · cases hr
          · cases hr
        · cases hr
    · split at hr
      · cases hr
      · split at hr
        · split at hr
          · split at hr
            · exact ih _ _ _ _ _ hr
            · cases hr
          · cases hr
        · cases hr
    · split at hr
      · cases hr; exact Or.inr (Or.inl ⟨_, rfl⟩)
      · cases hr
    · split at hr
      · cases hr; exact Or.inr (Or.inl ⟨_, rfl⟩)
      · cases hr
    · split at hr
      · cases hr; exact Or.inr (Or.inr ⟨_, rfl⟩)
      · cases hr
    · split at hr
      · cases hr; exact Or.inl rfl
      · cases hr
    · split at hr
      · exact ih _ _ _ _ _ hr
      · cases hr
end RUN
