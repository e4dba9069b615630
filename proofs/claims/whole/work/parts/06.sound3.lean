section SN3
variable {p : Program} {l : Launch} {e0 : Env} {R : Room} {s : State} {m : MethodId} {args : Array Value} {below : List Frame} {meth : Method} {cd : Code} {Q : State → Prop}
variable {dC : Nat → ClassId} {dI : Nat → Nat → Nat} {dA : Nat → ClassId} {q : Nat → Nat → Nat} {wl : List (Nat × Nat)} {A : Nat → Prop} {nL : Nat} {bytes : ByteArray} {own : String} {C : List IE}
variable {ret : Option FieldType} {MT : List MD} {FL ML : FLT} {CI : CIT} {CJ : CJT}
variable {pc ln a b c e ix : Nat} {ins : Instr} {v : Int32} {w : Int64} {ts : List (Int32 × Nat)} {ks : List Nat} {L st : List AV} {h : AH} {y : Cf}
theorem ent_0 {h : AH} {k i n z : Nat} (hk : kd k = .inl (0, n, z)) : ent dA q h k i = .inl (dA 0, n, .inl (h.1 k i)) := by
  unfold ent
  rw [hk]
  rfl
theorem ent_1 {h : AH} {k i n z : Nat} (hk : kd k = .inl (1, n, z)) : ent dA q h k i = .inl (dA 1, n, .inl (h.1 k i)) := by
  unfold ent
  rw [hk]
  rfl
theorem ent_2 {h : AH} {k i n z : Nat} (hk : kd k = .inl (2, n, z)) : ent dA q h k i = .inl (dA 2, n, .inl (h.1 k i)) := by
  unfold ent
  rw [hk]
  rfl
theorem ent_3 {h : AH} {k i n z : Nat} (hk : kd k = .inl (3, n, z)) : ent dA q h k i = .inl (dA 3, n, .inr (.inl (h.2 k i))) := by
  unfold ent
  rw [hk]
  rfl
theorem ent_4 {h : AH} {k i n z : Nat} (hk : kd k = .inl (4, n, z)) : ent dA q h k i = .inl (dA 4, n, .inr (.inr (.inr (.inr (fun j => some (q z j)))))) := by
  unfold ent
  rw [hk]
  rfl
theorem ent_5 {h : AH} {k i n z : Nat} (hk : kd k = .inl (5, n, z)) : ent dA q h k i = .inl (dA 5, n, .inr (.inr (.inr (.inr (fun j => some (q z j)))))) := by
  unfold ent
  rw [hk]
  rfl
theorem ent_6 {h : AH} {k i n z : Nat} (hk : kd k = .inl (6, n, z)) : ent dA q h k i = .inl (dA 6, n, .inr (.inr (.inr (.inr (fun j => some (q z j)))))) := by
  unfold ent
  rw [hk]
  rfl
theorem upd_hsI {h : AH} {k i j : Nat} {x : Int32} : upd (h.1 k i) j x = (hsI h k i j x).1 k i := by
  funext n
  show (if n = j then x else h.1 k i n) = if k = k ∧ i = i ∧ n = j then x else h.1 k i n
  by_cases hn : n = j
  · rw [if_pos hn, if_pos ⟨rfl, rfl, hn⟩]
  · rw [if_neg hn, if_neg (fun z => hn z.2.2)]
theorem upd_hsL {h : AH} {k i j : Nat} {x : Int64} : vp_updL (h.2 k i) j x = (hsL h k i j x).2 k i := by
  funext n
  show (if n = j then x else h.2 k i n) = if k = k ∧ i = i ∧ n = j then x else h.2 k i n
  by_cases hn : n = j
  · rw [if_pos hn, if_pos ⟨rfl, rfl, hn⟩]
  · rw [if_neg hn, if_neg (fun z => hn z.2.2)]
set_option maxHeartbeats 4000000 in
theorem sn_24 (X : Cx p s m args meth cd dC dI dA own bytes nL ret) (hW : WOK wl) (hd : decode bytes (pcA C ix) = .ok (ins, ln)) (ho : okO MT FL ML CI CJ own C ix (pcA C ix, ln, 24, ins, a, b, c, e, v, w, ts, ks) = true) (hn : pcA C (ix + 1) = pcA C ix + ln)
    (hs : stepI 24 a b c e v w ts ix L st h = some y) (hy : At_ p l e0 R s m args below meth cd Q dC dI dA q wl A nL C y) : At_ p l e0 R s m args below meth cd Q dC dI dA q wl A nL C (ix, L, st, h) := by
  obtain ⟨hx, hb, hml, hr, hlk, hown, hts, hK, hNW⟩ := X
  simp only [okO, decide_eq_true_eq] at ho
  obtain ⟨rfl, rfl⟩ := ho
  simp only [stepI] at hs
  split at hs
  · rename_i j k i r
    split at hs
    · rename_i n z hk
      split at hs
      · rename_i hin
        cases hs
        intro hL hst hlen ls H locs hl hw
        have K := hy hL (VO.int hst.tail.tail) hlen ls H locs hl hw
        simp only [hn] at K
        obtain ⟨p0, hp, hws⟩ := ws_get (dA := dA) (q := q) h hst.tail.hd
        rw [ent_0 hk] at hws
        exact va_iald (D := (dC, dI)) (cl := vwCl) hx hb hK hw.1 p0 0 hws rfl (inb_vp hin) hd K
      · cases hs
    · cases hs
  · cases hs

set_option maxHeartbeats 4000000 in
theorem sn_25 (X : Cx p s m args meth cd dC dI dA own bytes nL ret) (hW : WOK wl) (hd : decode bytes (pcA C ix) = .ok (ins, ln)) (ho : okO MT FL ML CI CJ own C ix (pcA C ix, ln, 25, ins, a, b, c, e, v, w, ts, ks) = true) (hn : pcA C (ix + 1) = pcA C ix + ln)
    (hs : stepI 25 a b c e v w ts ix L st h = some y) (hy : At_ p l e0 R s m args below meth cd Q dC dI dA q wl A nL C y) : At_ p l e0 R s m args below meth cd Q dC dI dA q wl A nL C (ix, L, st, h) := by
  obtain ⟨hx, hb, hml, hr, hlk, hown, hts, hK, hNW⟩ := X
  simp only [okO, decide_eq_true_eq] at ho
  obtain ⟨rfl, rfl⟩ := ho
  simp only [stepI] at hs
  split at hs
  · rename_i j k i r
    split at hs
    · rename_i n z hk
      split at hs
      · rename_i hin
        cases hs
        intro hL hst hlen ls H locs hl hw
        have K := hy hL (VO.int hst.tail.tail) hlen ls H locs hl hw
        simp only [hn] at K
        obtain ⟨p0, hp, hws⟩ := ws_get (dA := dA) (q := q) h hst.tail.hd
        rw [ent_1 hk] at hws
        exact va_bald (D := (dC, dI)) (cl := vwCl) hx hb hK hw.1 p0 1 hws rfl (inb_vp hin) hd K
      · cases hs
    · rename_i n z hk
      split at hs
      · rename_i hin
        cases hs
        intro hL hst hlen ls H locs hl hw
        have K := hy hL (VO.int hst.tail.tail) hlen ls H locs hl hw
        simp only [hn] at K
        obtain ⟨p0, hp, hws⟩ := ws_get (dA := dA) (q := q) h hst.tail.hd
        rw [ent_2 hk] at hws
        exact va_zald (D := (dC, dI)) (cl := vwCl) hx hb hK hw.1 p0 2 hws rfl (inb_vp hin) hd K
      · cases hs
    · cases hs
  · cases hs

set_option maxHeartbeats 4000000 in
theorem sn_26 (X : Cx p s m args meth cd dC dI dA own bytes nL ret) (hW : WOK wl) (hd : decode bytes (pcA C ix) = .ok (ins, ln)) (ho : okO MT FL ML CI CJ own C ix (pcA C ix, ln, 26, ins, a, b, c, e, v, w, ts, ks) = true) (hn : pcA C (ix + 1) = pcA C ix + ln)
    (hs : stepI 26 a b c e v w ts ix L st h = some y) (hy : At_ p l e0 R s m args below meth cd Q dC dI dA q wl A nL C y) : At_ p l e0 R s m args below meth cd Q dC dI dA q wl A nL C (ix, L, st, h) := by
  obtain ⟨hx, hb, hml, hr, hlk, hown, hts, hK, hNW⟩ := X
  simp only [okO, decide_eq_true_eq] at ho
  obtain ⟨rfl, rfl⟩ := ho
  simp only [stepI] at hs
  split at hs
  · rename_i j k i r
    split at hs
    · rename_i n z hk
      split at hs
      · rename_i hin
        cases hs
        intro hL hst hlen ls H locs hl hw
        have K := hy hL (VO.long hst.tail.tail) hlen ls H locs hl hw
        simp only [hn] at K
        obtain ⟨p0, hp, hws⟩ := ws_get (dA := dA) (q := q) h hst.tail.hd
        rw [ent_3 hk] at hws
        exact va_lald (D := (dC, dI)) (cl := vwCl) hx hb hK hw.1 p0 3 hws rfl (inb_vp hin) hd K
      · cases hs
    · cases hs
  · cases hs

set_option maxHeartbeats 4000000 in
theorem sn_27 (X : Cx p s m args meth cd dC dI dA own bytes nL ret) (hW : WOK wl) (hd : decode bytes (pcA C ix) = .ok (ins, ln)) (ho : okO MT FL ML CI CJ own C ix (pcA C ix, ln, 27, ins, a, b, c, e, v, w, ts, ks) = true) (hn : pcA C (ix + 1) = pcA C ix + ln)
    (hs : stepI 27 a b c e v w ts ix L st h = some y) (hy : At_ p l e0 R s m args below meth cd Q dC dI dA q wl A nL C y) : At_ p l e0 R s m args below meth cd Q dC dI dA q wl A nL C (ix, L, st, h) := by
  obtain ⟨hx, hb, hml, hr, hlk, hown, hts, hK, hNW⟩ := X
  simp only [okO, decide_eq_true_eq] at ho
  obtain ⟨rfl, rfl⟩ := ho
  simp only [stepI] at hs
  split at hs
  · rename_i j k i r
    split at hs
    · rename_i n z hk
      split at hs
      · rename_i hin
        cases hs
        intro hL hst hlen ls H locs hl hw
        have K := hy hL (VO.ref (clo_arr hW hst.tail.hd hk (by omega) (by have := inb_vp hin; exact Nat.not_le.mp (fun q => this (Or.inr q)))) hst.tail.tail) hlen ls H locs hl hw
        simp only [hn] at K
        obtain ⟨p0, hp, hws⟩ := ws_get (dA := dA) (q := q) h hst.tail.hd
        rw [ent_4 hk] at hws
        exact va_aldq (D := (dC, dI)) (cl := vwCl) hx hb hK hw.1 p0 4 hws rfl (inb_vp hin) hd K
      · cases hs
    · rename_i n z hk
      split at hs
      · rename_i hin
        cases hs
        intro hL hst hlen ls H locs hl hw
        have K := hy hL (VO.ref (clo_arr hW hst.tail.hd hk (by omega) (by have := inb_vp hin; exact Nat.not_le.mp (fun q => this (Or.inr q)))) hst.tail.tail) hlen ls H locs hl hw
        simp only [hn] at K
        obtain ⟨p0, hp, hws⟩ := ws_get (dA := dA) (q := q) h hst.tail.hd
        rw [ent_5 hk] at hws
        exact va_aldq (D := (dC, dI)) (cl := vwCl) hx hb hK hw.1 p0 5 hws rfl (inb_vp hin) hd K
      · cases hs
    · rename_i n z hk
      split at hs
      · rename_i hin
        cases hs
        intro hL hst hlen ls H locs hl hw
        have K := hy hL (VO.ref (clo_arr hW hst.tail.hd hk (by omega) (by have := inb_vp hin; exact Nat.not_le.mp (fun q => this (Or.inr q)))) hst.tail.tail) hlen ls H locs hl hw
        simp only [hn] at K
        obtain ⟨p0, hp, hws⟩ := ws_get (dA := dA) (q := q) h hst.tail.hd
        rw [ent_6 hk] at hws
        exact va_aldq (D := (dC, dI)) (cl := vwCl) hx hb hK hw.1 p0 6 hws rfl (inb_vp hin) hd K
      · cases hs
    · cases hs
  · cases hs

set_option maxHeartbeats 4000000 in
theorem sn_28 (X : Cx p s m args meth cd dC dI dA own bytes nL ret) (hW : WOK wl) (hd : decode bytes (pcA C ix) = .ok (ins, ln)) (ho : okO MT FL ML CI CJ own C ix (pcA C ix, ln, 28, ins, a, b, c, e, v, w, ts, ks) = true) (hn : pcA C (ix + 1) = pcA C ix + ln)
    (hs : stepI 28 a b c e v w ts ix L st h = some y) (hy : At_ p l e0 R s m args below meth cd Q dC dI dA q wl A nL C y) : At_ p l e0 R s m args below meth cd Q dC dI dA q wl A nL C (ix, L, st, h) := by
  obtain ⟨hx, hb, hml, hr, hlk, hown, hts, hK, hNW⟩ := X
  simp only [okO, decide_eq_true_eq] at ho
  obtain ⟨rfl, rfl⟩ := ho
  simp only [stepI] at hs
  split at hs
  · rename_i x j k i r
    split at hs
    · rename_i n z hk
      split at hs
      · rename_i hin
        cases hs
        intro hL hst hlen ls H locs hl hw
        obtain ⟨p0, hp, hws⟩ := ws_get (dA := dA) (q := q) h hst.tail.tail.hd
        rw [ent_0 hk] at hws
        refine va_iast (D := (dC, dI)) (cl := vwCl) hx hb hK hw.1 hw.2.1 hw.2.2 p0 0 hws rfl (inb_vp hin) hd (fun H1 locs1 hP hD hS => ?_)
        rw [ws_set (h2 := hsI h k i j.toNatClampNeg x) hW.1 hp (by rw [ent_0 hk]; rw [upd_hsI]) (fun a b hne => hs_other hne)] at hP hD
        have K := hy hL hst.tail.tail.tail hlen ls H1 locs1 hl ⟨hP, hD, hS⟩
        simp only [hn] at K
        exact K
      · cases hs
    · cases hs
  · cases hs

set_option maxHeartbeats 4000000 in
theorem sn_29 (X : Cx p s m args meth cd dC dI dA own bytes nL ret) (hW : WOK wl) (hd : decode bytes (pcA C ix) = .ok (ins, ln)) (ho : okO MT FL ML CI CJ own C ix (pcA C ix, ln, 29, ins, a, b, c, e, v, w, ts, ks) = true) (hn : pcA C (ix + 1) = pcA C ix + ln)
    (hs : stepI 29 a b c e v w ts ix L st h = some y) (hy : At_ p l e0 R s m args below meth cd Q dC dI dA q wl A nL C y) : At_ p l e0 R s m args below meth cd Q dC dI dA q wl A nL C (ix, L, st, h) := by
  obtain ⟨hx, hb, hml, hr, hlk, hown, hts, hK, hNW⟩ := X
  simp only [okO, decide_eq_true_eq] at ho
  obtain ⟨rfl, rfl⟩ := ho
  simp only [stepI] at hs
  split at hs
  · rename_i x j k i r
    split at hs
    · rename_i n z hk
      split at hs
      · rename_i hin
        cases hs
        intro hL hst hlen ls H locs hl hw
        obtain ⟨p0, hp, hws⟩ := ws_get (dA := dA) (q := q) h hst.tail.tail.hd
        rw [ent_1 hk] at hws
        refine va_bast (D := (dC, dI)) (cl := vwCl) hx hb hK hw.1 hw.2.1 hw.2.2 p0 1 hws rfl (inb_vp hin) hd (fun H1 locs1 hP hD hS => ?_)
        rw [ws_set (h2 := hsI h k i j.toNatClampNeg x.toInt8.toInt32) hW.1 hp (by rw [ent_1 hk]; rw [vp_nar_byte, upd_hsI]) (fun a b hne => hs_other hne)] at hP hD
        have K := hy hL hst.tail.tail.tail hlen ls H1 locs1 hl ⟨hP, hD, hS⟩
        simp only [hn] at K
        exact K
      · cases hs
    · rename_i n z hk
      split at hs
      · rename_i hin
        cases hs
        intro hL hst hlen ls H locs hl hw
        obtain ⟨p0, hp, hws⟩ := ws_get (dA := dA) (q := q) h hst.tail.tail.hd
        rw [ent_2 hk] at hws
        refine va_zast (D := (dC, dI)) (cl := vwCl) hx hb hK hw.1 hw.2.1 hw.2.2 p0 2 hws rfl (inb_vp hin) hd (fun H1 locs1 hP hD hS => ?_)
        rw [ws_set (h2 := hsI h k i j.toNatClampNeg (zn x)) hW.1 hp (by rw [ent_2 hk]; rw [show vp_nar .boolean x = zn x from rfl, upd_hsI]) (fun a b hne => hs_other hne)] at hP hD
        have K := hy hL hst.tail.tail.tail hlen ls H1 locs1 hl ⟨hP, hD, hS⟩
        simp only [hn] at K
        exact K
      · cases hs
    · cases hs
  · cases hs

set_option maxHeartbeats 4000000 in
theorem sn_30 (X : Cx p s m args meth cd dC dI dA own bytes nL ret) (hW : WOK wl) (hd : decode bytes (pcA C ix) = .ok (ins, ln)) (ho : okO MT FL ML CI CJ own C ix (pcA C ix, ln, 30, ins, a, b, c, e, v, w, ts, ks) = true) (hn : pcA C (ix + 1) = pcA C ix + ln)
    (hs : stepI 30 a b c e v w ts ix L st h = some y) (hy : At_ p l e0 R s m args below meth cd Q dC dI dA q wl A nL C y) : At_ p l e0 R s m args below meth cd Q dC dI dA q wl A nL C (ix, L, st, h) := by
  obtain ⟨hx, hb, hml, hr, hlk, hown, hts, hK, hNW⟩ := X
  simp only [okO, decide_eq_true_eq] at ho
  obtain ⟨rfl, rfl⟩ := ho
  simp only [stepI] at hs
  split at hs
  · rename_i x j k i r
    split at hs
    · rename_i n z hk
      split at hs
      · rename_i hin
        cases hs
        intro hL hst hlen ls H locs hl hw
        obtain ⟨p0, hp, hws⟩ := ws_get (dA := dA) (q := q) h hst.tail.tail.hd
        rw [ent_3 hk] at hws
        refine va_last (D := (dC, dI)) (cl := vwCl) hx hb hK hw.1 hw.2.1 hw.2.2 p0 3 hws rfl (inb_vp hin) hd (fun H1 locs1 hP hD hS => ?_)
        rw [ws_set (h2 := hsL h k i j.toNatClampNeg x) hW.1 hp (by rw [ent_3 hk]; rw [upd_hsL]) (fun a b hne => hsL_other hne)] at hP hD
        have K := hy hL hst.tail.tail.tail hlen ls H1 locs1 hl ⟨hP, hD, hS⟩
        simp only [hn] at K
        exact K
      · cases hs
    · cases hs
  · cases hs

set_option maxHeartbeats 4000000 in
theorem sn_31 (X : Cx p s m args meth cd dC dI dA own bytes nL ret) (hW : WOK wl) (hd : decode bytes (pcA C ix) = .ok (ins, ln)) (ho : okO MT FL ML CI CJ own C ix (pcA C ix, ln, 31, ins, a, b, c, e, v, w, ts, ks) = true) (hn : pcA C (ix + 1) = pcA C ix + ln)
    (hs : stepI 31 a b c e v w ts ix L st h = some y) (hy : At_ p l e0 R s m args below meth cd Q dC dI dA q wl A nL C y) : At_ p l e0 R s m args below meth cd Q dC dI dA q wl A nL C (ix, L, st, h) := by
  obtain ⟨hx, hb, hml, hr, hlk, hown, hts, hK, hNW⟩ := X
  simp only [okO, decide_eq_true_eq] at ho
  obtain ⟨rfl, rfl⟩ := ho
  simp only [stepI] at hs
  split at hs
  · rename_i k i r
    split at hs
    · rename_i n z hk
      cases hs
      intro hL hst hlen ls H locs hl hw
      have K := hy hL (VO.int hst.tail) hlen ls H locs hl hw
      simp only [hn] at K
      obtain ⟨p0, hp, hws⟩ := ws_get (dA := dA) (q := q) h hst.hd
      rw [ent_0 hk] at hws
      exact va_alen (D := (dC, dI)) (cl := vwCl) hx hb hK hw.1 p0 0 hws rfl rfl hd K
    · rename_i n z hk
      cases hs
      intro hL hst hlen ls H locs hl hw
      have K := hy hL (VO.int hst.tail) hlen ls H locs hl hw
      simp only [hn] at K
      obtain ⟨p0, hp, hws⟩ := ws_get (dA := dA) (q := q) h hst.hd
      rw [ent_1 hk] at hws
      exact va_alen (D := (dC, dI)) (cl := vwCl) hx hb hK hw.1 p0 1 hws rfl rfl hd K
    · cases hs
  · cases hs

end SN3
