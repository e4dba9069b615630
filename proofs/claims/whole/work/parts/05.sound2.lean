section SN2
variable {p : Program} {l : Launch} {e0 : Env} {R : Room} {s : State} {m : MethodId} {args : Array Value} {below : List Frame} {meth : Method} {cd : Code} {Q : State → Prop}
variable {dC : Nat → ClassId} {dI : Nat → Nat → Nat} {dA : Nat → ClassId} {q : Nat → Nat → Nat} {wl : List (Nat × Nat)} {A : Nat → Prop} {nL : Nat} {bytes : ByteArray} {own : String} {C : List IE}
variable {ret : Option FieldType} {MT : List MD} {FL ML : FLT} {CI : CIT} {CJ : CJT}
variable {pc ln a b c e ix : Nat} {ins : Instr} {v : Int32} {w : Int64} {ts : List (Int32 × Nat)} {ks : List Nat} {L st : List AV} {h : AH} {y : Cf}
theorem ent_obj {h : AH} {k i ci : Nat} {fs : List FE} (hk : kd k = .inr (ci, fs)) : ent dA q h k i = .inr (ci, fvs q h k i 0 fs) := by
  unfold ent
  rw [hk]
theorem fnth_mem {fs : List FE} {b : Nat} (hb : b < fs.length) : fnth fs b ∈ fs := by
  induction fs generalizing b with
  | nil => exact absurd hb (Nat.not_lt_zero _)
  | cons f r ih =>
    cases b with
    | zero => exact List.mem_cons_self
    | succ b => exact List.mem_cons_of_mem _ (ih (b := b) (by simpa using hb))
theorem clo_same {k i ci b k2 z : Nat} {fs : List FE} (hW : WOK wl) (hm : (k, i) ∈ wl) (hk : kd k = .inr (ci, fs)) (hf : fnth fs b = .inr (k2, 0, z)) : (k2, i) ∈ wl := by
  have h1 := hW.2 _ hm
  unfold cloB at h1
  simp only [hk] at h1
  have hb : b < fs.length := fnth_lt (by rw [hf]; simp)
  have h2 := List.all_eq_true.mp h1 _ (fnth_mem hb)
  rw [hf] at h2
  simpa using h2
theorem clo_const {k i ci b k2 z n : Nat} {fs : List FE} (hW : WOK wl) (hm : (k, i) ∈ wl) (hk : kd k = .inr (ci, fs)) (hf : fnth fs b = .inr (k2, n + 1, z)) : (k2, z) ∈ wl := by
  have h1 := hW.2 _ hm
  unfold cloB at h1
  simp only [hk] at h1
  have hb : b < fs.length := fnth_lt (by rw [hf]; simp)
  have h2 := List.all_eq_true.mp h1 _ (fnth_mem hb)
  rw [hf] at h2
  simpa using h2
theorem clo_arr {k i t n k2 j : Nat} (hW : WOK wl) (hm : (k, i) ∈ wl) (hk : kd k = .inl (t, n, k2)) (ht : 4 ≤ t) (hj : j < n) : (k2, j) ∈ wl := by
  have h1 := hW.2 _ hm
  unfold cloB at h1
  simp only [hk] at h1
  rw [show Nat.ble 4 t = true from Nat.ble_eq.mpr ht] at h1
  simp only [Bool.not_true, Bool.false_or] at h1
  have h2 := List.all_eq_true.mp h1 j (List.mem_range.mpr hj)
  simpa using h2
set_option maxHeartbeats 4000000 in
/-- a field is read -/
theorem gf {k i idx : Nat} {fs : List FE} {r : List Value} {ls : Array Slot} {H : Heap} {locs : List Loc} (X : Cx p s m args meth cd dC dI dA own bytes nL ret) (hF : FLok (own, idx, a, b)) (hm : (k, i) ∈ wl) (hk : kd k = .inr (a, fs)) (hw : Wd dC dI dA q wl A s.heap H locs h) (hd : decode bytes pc = .ok (.getfield idx, 3))
    (K : W p l e0 R s m args below meth cd H locs 0 0 Q (F0 m (pc + 3) ls (fv1 q h k i b (fnth fs b) :: r))) : W p l e0 R s m args below meth cd H locs 0 0 Q (F0 m pc ls (.ref (q k i) :: r)) := by
  obtain ⟨hx, hb, hml, hr, hlk, hown, hts, hK, hNW⟩ := X
  obtain ⟨⟨Cn, T, N⟩, hc, hbn, hlink⟩ := hF
  obtain ⟨h1, -, -, h4⟩ := cls_ok _ _ hc
  obtain ⟨p0, hp, hws⟩ := ws_get (dA := dA) (q := q) h hm
  rw [ent_obj hk] at hws
  have hlen := kd_len hk hc
  have hbf : b < fs.length := by rw [hlen]; exact hbn
  exact va_get (D := (dC, dI)) (ci := a) (v := fv1 q h k i b (fnth fs b)) (C := Cn) (T := T) (N := N) hx hb hts h1 hown hK hw.1 p0 hws hc b hbn (hts _ hlink) (fun x hh => by rw [← h4 b]; exact hh) (by have := fvs_get q h k i fs 0 b hbf; simpa using this) hd K
set_option maxHeartbeats 4000000 in
theorem sn_22 (X : Cx p s m args meth cd dC dI dA own bytes nL ret) (hFL : ∀ t ∈ FL, FLok t) (hW : WOK wl) (hd : decode bytes (pcA C ix) = .ok (ins, ln)) (ho : okO MT FL ML CI CJ own C ix (pcA C ix, ln, 22, ins, a, b, c, e, v, w, ts, ks) = true) (hn : pcA C (ix + 1) = pcA C ix + ln)
    (hs : stepI 22 a b c e v w ts ix L st h = some y) (hy : At_ p l e0 R s m args below meth cd Q dC dI dA q wl A nL C y) : At_ p l e0 R s m args below meth cd Q dC dI dA q wl A nL C (ix, L, st, h) := by
  simp only [okO] at ho
  split at ho
  · rename_i idx
    simp only [Bool.and_eq_true, decide_eq_true_eq] at ho
    obtain ⟨rfl, hFe⟩ := ho
    have hF := hFL _ (List.mem_of_getElem? hFe)
    simp only [stepI] at hs
    split at hs
    · rename_i k i r
      split at hs
      · rename_i ci fs hk
        split at hs
        · rename_i hci
          have hci := Nat.eq_of_beq_eq_true hci
          subst hci
          intro hL hst hlen ls H locs hl hw
          refine gf X hF hst.hd hk hw hd ?_
          split at hs
          · rename_i hf
            cases hs
            have K := hy hL (VO.long hst.tail) hlen ls H locs hl hw
            simp only [hn] at K
            rw [hf]
            exact K
          · rename_i hf
            cases hs
            have K := hy hL (VO.int hst.tail) hlen ls H locs hl hw
            simp only [hn] at K
            rw [hf]
            exact K
          · rename_i hf
            cases hs
            have K := hy hL (VO.int hst.tail) hlen ls H locs hl hw
            simp only [hn] at K
            rw [hf]
            exact K
          · rename_i k2 z hf
            cases hs
            have K := hy hL (VO.ref (clo_same hW hst.hd hk hf) hst.tail) hlen ls H locs hl hw
            simp only [hn] at K
            rw [hf]
            exact K
          · rename_i k2 z hf
            cases hs
            have K := hy hL (VO.ref (clo_const hW hst.hd hk hf) hst.tail) hlen ls H locs hl hw
            simp only [hn] at K
            rw [hf]
            exact K
          · cases hs
        · cases hs
      · cases hs
    · cases hs
  · cases ho
theorem hs_other {h : AH} {k i j : Nat} {v : Int32} {a b : Nat} (hne : (a, b) ≠ (k, i)) : (hsI h k i j v).1 a b = h.1 a b ∧ (hsI h k i j v).2 a b = h.2 a b := by
  refine ⟨?_, rfl⟩
  funext c
  show (if a = k ∧ b = i ∧ c = j then v else h.1 a b c) = h.1 a b c
  rw [if_neg]
  rintro ⟨rfl, rfl, -⟩
  exact hne rfl
theorem hsL_other {h : AH} {k i j : Nat} {v : Int64} {a b : Nat} (hne : (a, b) ≠ (k, i)) : (hsL h k i j v).1 a b = h.1 a b ∧ (hsL h k i j v).2 a b = h.2 a b := by
  refine ⟨rfl, ?_⟩
  funext c
  show (if a = k ∧ b = i ∧ c = j then v else h.2 a b c) = h.2 a b c
  rw [if_neg]
  rintro ⟨rfl, rfl, -⟩
  exact hne rfl
set_option maxHeartbeats 4000000 in
/-- a field is written -/
theorem pf {k i idx t : Nat} {fs : List FE} {r : List Value} {ls : Array Slot} {H : Heap} {locs : List Loc} {h2 : AH} {x : Value} (X : Cx p s m args meth cd dC dI dA own bytes nL ret) (hW : WOK wl) (hF : FLok (own, idx, a, b)) (hfin : ∀ r : vw_C, vwCl[a]? = some r → (r.2.1 b).2.2.2 = false) (hm : (k, i) ∈ wl) (hk : kd k = .inr (a, fs)) (hft : fnth fs b = .inl t)
    (hnar : narrow (tyC t) x = x) (hfit : fits (tyC t) x = true) (hval : fv1 q h2 k i b (fnth fs b) = x) (hsame : ∀ j, j ≠ b → h2.1 k i j = h.1 k i j ∧ h2.2 k i j = h.2 k i j) (hoth : ∀ a b, (a, b) ≠ (k, i) → h2.1 a b = h.1 a b ∧ h2.2 a b = h.2 a b)
    (hw : Wd dC dI dA q wl A s.heap H locs h) (hd : decode bytes pc = .ok (.putfield idx, 3))
    (K : ∀ (H1 : Heap) (locs1 : List Loc), Wd dC dI dA q wl A s.heap H1 locs1 h2 → W p l e0 R s m args below meth cd H1 locs1 0 0 Q (F0 m (pc + 3) ls r)) : W p l e0 R s m args below meth cd H locs 0 0 Q (F0 m pc ls (x :: .ref (q k i) :: r)) := by
  obtain ⟨hx, hb, hml, hr, hlk, hown, hts, hK, hNW⟩ := X
  obtain ⟨⟨Cn, T, N⟩, hc, hbn, hlink⟩ := hF
  obtain ⟨h1, ⟨ty0, hty⟩, hnm, h4⟩ := cls_ok _ _ hc
  obtain ⟨p0, hp, hws⟩ := ws_get (dA := dA) (q := q) h hm
  rw [ent_obj hk] at hws
  have hlen := kd_len hk hc
  have hbf : b < fs.length := by rw [hlen]; exact hbn
  obtain ⟨-, hpd⟩ := kd_field hk hc hbn hft
  refine va_put (D := (dC, dI)) (ci := a) (v := x) (ty := tyC t) (C := Cn) (T := T) (N := N) hx hb hts h1 ty0 hty hnm hown hK hw.1 hw.2.1 hw.2.2 p0 hws hc b hbn (hts _ hlink) (fun x hh => by rw [← h4 b]; exact hh) (hfin _ hc) hpd hnar hfit (by rw [fvs_len]; exact hbf) hd (fun H1 locs1 hP hD hS => ?_)
  have hset : (wsOf dA q wl h).set p0 (q k i, .inr (a, (fvs q h k i 0 fs).set b x)) = wsOf dA q wl h2 := by
    refine ws_set hW.1 hp ?_ hoth
    rw [ent_obj hk, fvs_hs q (h2 := h2) x b hsame fs 0 b (by omega) (fun _ => hval)]
  rw [hset] at hP hD
  exact K H1 locs1 ⟨hP, hD, hS⟩
set_option maxHeartbeats 4000000 in
theorem sn_23 (X : Cx p s m args meth cd dC dI dA own bytes nL ret) (hFL : ∀ t ∈ FL, FLok t) (hW : WOK wl) (hd : decode bytes (pcA C ix) = .ok (ins, ln)) (ho : okO MT FL ML CI CJ own C ix (pcA C ix, ln, 23, ins, a, b, c, e, v, w, ts, ks) = true) (hn : pcA C (ix + 1) = pcA C ix + ln)
    (hs : stepI 23 a b c e v w ts ix L st h = some y) (hy : At_ p l e0 R s m args below meth cd Q dC dI dA q wl A nL C y) : At_ p l e0 R s m args below meth cd Q dC dI dA q wl A nL C (ix, L, st, h) := by
  simp only [okO] at ho
  split at ho
  · rename_i idx
    simp only [Bool.and_eq_true, decide_eq_true_eq] at ho
    obtain ⟨⟨rfl, hFe⟩, hfi⟩ := ho
    have hF := hFL _ (List.mem_of_getElem? hFe)
    have hfin : ∀ r : vw_C, vwCl[a]? = some r → (r.2.1 b).2.2.2 = false := by
      intro r hr
      rw [hr] at hfi
      simpa using hfi
    have same1 : ∀ {k i : Nat} {x : Int32}, ∀ j, j ≠ b → (hsI h k i b x).1 k i j = h.1 k i j ∧ (hsI h k i b x).2 k i j = h.2 k i j := by
      intro k i x j hj
      refine ⟨?_, rfl⟩
      show (if k = k ∧ i = i ∧ j = b then x else h.1 k i j) = _
      rw [if_neg (fun z => hj z.2.2)]
    have val1 : ∀ {k i : Nat} {x : Int32}, (hsI h k i b x).1 k i b = x := by
      intro k i x
      show (if k = k ∧ i = i ∧ b = b then x else h.1 k i b) = _
      rw [if_pos ⟨rfl, rfl, rfl⟩]
    simp only [stepI] at hs
    split at hs
    · rename_i x k i r
      split at hs
      · rename_i ci fs hk
        split at hs
        · rename_i hci
          have hci := Nat.eq_of_beq_eq_true hci
          subst hci
          intro hL hst hlen ls H locs hl hw
          split at hs
          · rename_i hf
            cases hs
            refine pf (t := 0) (h2 := hsI h k i b x) X hW hF hfin hst.tail.hd hk hf rfl rfl (by rw [hf]; show Value.int ((hsI h k i b x).1 k i b) = _; rw [val1]; rfl) same1 (fun a b hne => hs_other hne) hw hd (fun H1 locs1 hw1 => ?_)
            have K := hy hL hst.tail.tail hlen ls H1 locs1 hl hw1
            simp only [hn] at K
            exact K
          · rename_i hf
            split at hs
            · rename_i hx01
              cases hs
              refine pf (t := 2) (h2 := hsI h k i b x) X hW hF hfin hst.tail.hd hk hf (by rcases hx01 with rfl | rfl <;> rfl) (by rcases hx01 with rfl | rfl <;> rfl) (by rw [hf]; show Value.int ((hsI h k i b x).1 k i b) = _; rw [val1]; rfl) same1 (fun a b hne => hs_other hne) hw hd (fun H1 locs1 hw1 => ?_)
              have K := hy hL hst.tail.tail hlen ls H1 locs1 hl hw1
              simp only [hn] at K
              exact K
            · cases hs
          · cases hs
        · cases hs
      · cases hs
    · rename_i x k i r
      split at hs
      · rename_i ci fs hk
        split at hs
        · rename_i hci
          have hci := Nat.eq_of_beq_eq_true hci
          subst hci
          intro hL hst hlen ls H locs hl hw
          split at hs
          · rename_i hf
            cases hs
            refine pf (h := h) (t := 1) (h2 := hsL h k i b x) X hW hF hfin hst.tail.hd hk hf rfl rfl (by rw [hf]; show Value.long ((hsL h k i b x).2 k i b) = _; simp [hsL]; rfl) (fun j hj => ⟨rfl, by simp [hsL, hj]⟩) (fun a b hne => hsL_other hne) hw hd (fun H1 locs1 hw1 => ?_)
            have K := hy hL hst.tail.tail hlen ls H1 locs1 hl hw1
            simp only [hn] at K
            exact K
          · cases hs
        · cases hs
      · cases hs
    · cases hs
  · cases ho
end SN2
