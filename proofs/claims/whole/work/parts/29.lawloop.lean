def R_law : String := "WhyRoomLaw"
def lw_P (b : Addr) (xs : List Int32) (args : Array Value) (s : State) : Prop := args = #[.ref b] ∧ s.IntsAt b xs ∧ xs.length ≤ 384 ∧ (Jvm.Cond.and given_1 narrow_1).before args s = true
def lw_Q (_ : Array Value) (s : State) (o : Outcome) (t : State) : Prop := o = .returned (some (.int 1)) ∧ Framed s o t [] 600000 7302250
def lw_Z (below : List Frame) (a : Array Value) (s : State) : State → Prop := fun t => ∃ o, t.status = .running ∧ Ended t below o ∧ lw_Q a s o t
/-- the law's own end, with 1 on the stack, nothing written that was there before, its room as the claim has it -/
theorem lw_ret {p : Program} {l : Launch} {e : Env} {s : State} {m : MethodId} {below : List Frame} {meth : Method} {c : Code} {b : Nat} (hx : p.tables.exec = Jvm.exec) (hb : c.code = code) (hr : meth.sig.returnType = ret) (hlocks : meth.locks = false) {pc : Nat} {H : Heap} {ls : Array Slot} (hdg : decode code pc = .ok (.ireturn, 1)) : W p l e room_1 s m #[Value.ref b] below meth c H [] 600000 7302250 (lw_Z below #[Value.ref b] s) (F0 m pc ls [.int 1]) := by
  intro T hT X
  obtain ⟨fs, hret, hrun, hended, hW, hframe⟩ := X.leave (v := some (.int 1)) (hlocks := hlocks) (fun h => by rw [hr] at h; cases h)
  have hmeth' : T.vm.method? m = some meth := X.method'
  refine ⟨T.setFrames fs, ?_, .returned (some (.int 1)), hrun, hended, rfl, ⟨_, rfl⟩, hW, hframe⟩
  jvm_step X.here [X.here.top, hx, hb, hdg, hmeth', hr, ret, narrow_b1]
  (try refine ⟨rfl, ?_⟩); (try refine ⟨rfl, ?_⟩)
  first | (intro acts; rw [hret _ acts rfl rfl rfl]) | rw [hret _ _ rfl rfl rfl]
  exact Steps.refl _
/-- what holds at the law's entry: the machine, the code, the tables' words (any of lw_tbl by 'hts w (by decide +kernel)'), the script of L ints xs at the cell b, what the Statement gives of the start (any of its parts by flat_of_before) -/
def lw_At (p : Program) (s : State) (m : MethodId) (meth : Method) (c : Code) (b L : Nat) (xs : Nat → Int32) : Prop :=
  p.tables.exec = Jvm.exec ∧ c.code = code ∧ meth.sig.returnType = ret ∧ c.maxLocals = 4 ∧ s.vm.findClass R_law = some m.cls ∧ (∀ w ∈ lw_tbl, w.before #[Value.ref b] s = true) ∧ va_X b L xs s s.heap ∧ b < s.heap.size ∧ meth.locks = false ∧ (Jvm.Cond.and given_1 narrow_1).before #[Value.ref b] s = true
/-! ===== the law's loop, and its start ===== -/
def AllEq (Rel : AH → AH → Prop) : Prop := E2 Rel f_X11_row f_X12_row ∧ E3 Rel f_X11_lay f_X12_lay ∧ E2 Rel f_X11_at f_X12_at ∧ E1 Rel f_X11_tear f_X12_tear ∧ E5 Rel f_X11_copy f_X12_copy ∧ E1 Rel f_X11_mean f_X12_mean ∧ E2 Rel f_X11_text f_X12_text ∧ E3 Rel f_X11_put f_X12_put ∧ E1 Rel f_X11_fault f_X12_fault ∧ E1 Rel f_X11_room f_X12_room ∧ E2 Rel f_X11_claim f_X12_claim ∧ E2 Rel f_X11_reason f_X12_reason ∧ E2 Rel f_X11_mark f_X12_mark ∧ E2 Rel f_X11_trust f_X12_trust ∧ E2 Rel f_X11_away f_X12_away ∧ E2 Rel f_X11_learn f_X12_learn ∧ E1 Rel f_X11_law f_X12_law ∧ E1 Rel f_X11_begin f_X12_begin ∧ E2 Rel f_X11_answer f_X12_answer ∧ E1 Rel f_X11_undo f_X12_undo ∧ E0 Rel f_X11_here f_X12_here ∧ E0 Rel f_X11_may f_X12_may ∧ E0 Rel f_X11_ends f_X12_ends ∧ E1 Rel f_X11_asks f_X12_asks ∧ E1 Rel f_X11_image f_X12_image ∧ E1 Rel f_X11_on f_X12_on ∧ E0 Rel f_X11_stands f_X12_stands ∧ E1 Rel f_X11_soonest f_X12_soonest ∧ E1 Rel f_X11_steps f_X12_steps ∧ E1 Rel f_X11_sure f_X12_sure ∧ E2 Rel f_X11_longest f_X12_longest ∧ E0 Rel f_X11_lost f_X12_lost ∧ E1 Rel f_X11_never f_X12_never ∧ E1 Rel f_X11_game f_X12_game ∧ E1 Rel f_X11_words f_X12_words ∧ E1 Rel f_X11_agree f_X12_agree ∧ E1 Rel f_X11_thin f_X12_thin ∧ E1 Rel f_X11_without f_X12_without ∧ E1 Rel f_X11_falls f_X12_falls ∧ E1 Rel f_X11_whose f_X12_whose ∧ E1 Rel f_X11_judge f_X12_judge ∧ E1 Rel f_X11_held f_X12_held ∧ E1 Rel f_X11_lied f_X12_lied ∧ E3 Rel f_X11_fits f_X12_fits ∧ E2 Rel f_X11_odds f_X12_odds ∧ E2 Rel f_X11_night f_X12_night ∧ E0 Rel f_X11_asked f_X12_asked ∧ EL Rel f_X11_upper f_X12_upper ∧ EL Rel f_X11_lower f_X12_lower ∧ E1 Rel f_X11_count f_X12_count ∧ E0 Rel f_X11_finding f_X12_finding ∧ E1 Rel f_X11_findings f_X12_findings ∧ EL Rel f_X11_digest f_X12_digest
theorem sw_dec : decode code 33 = .ok (.tableswitch 1579 0 52 #[227, 260, 303, 336, 359, 422, 445, 478, 521, 544, 567, 600, 633, 666, 699, 732, 765, 788, 811, 844, 867, 880, 893, 906, 929, 952, 975, 988, 1011, 1034, 1057, 1090, 1103, 1126, 1149, 1172, 1195, 1218, 1241, 1264, 1287, 1310, 1333, 1356, 1399, 1432, 1465, 1478, 1492, 1506, 1529, 1542, 1565], 227) := (ld_ lk0 21 rfl)
def swO : Array Int := #[227, 260, 303, 336, 359, 422, 445, 478, 521, 544, 567, 600, 633, 666, 699, 732, 765, 788, 811, 844, 867, 880, 893, 906, 929, 952, 975, 988, 1011, 1034, 1057, 1090, 1103, 1126, 1149, 1172, 1195, 1218, 1241, 1264, 1287, 1310, 1333, 1356, 1399, 1432, 1465, 1478, 1492, 1506, 1529, 1542, 1565]
theorem and63 (x : Int32) : ∃ j : Nat, j < 64 ∧ x &&& 63 = nI j := pk_andE x 6 (by decide)
set_option maxHeartbeats 8000000 in
set_option maxRecDepth 100000 in
theorem law_sw {p : Program} {l : Launch} {e0 : Env} {s : State} {m : MethodId} {below : List Frame} {meth : Method} {cd : Code} {Q : State → Prop} {H : Heap} {locs : List Loc} {dC : Nat → ClassId} {dI : Nat → Nat → Nat} {dA : Nat → ClassId} {qX qM : Nat → Nat → Nat} {b L : Nat} {xs : Nat → Int32} {i : Nat} {ls : Array Slot} {hx hm : AH} {Rel : AH → AH → Prop} (C0 : LCx p s m meth cd b L xs dC dI dA qX qM) (hL : L ≤ 384) (hi : i + 6 ≤ L) (hl : lv_has ls 4 [(0, .ref b), (1, .ref (qX 0 0)), (2, .ref (qM 34 0)), (3, .int (nI i))]) (hLI : LI s dC dI dA qX qM hx hm H locs) (hA : AllEq Rel) (hR : Rel hx hm)
    (kk : ∀ (hx2 hm2 : AH) (H1 : Heap) (locs1 : List Loc), LI s dC dI dA qX qM hx2 hm2 H1 locs1 → Rel hx2 hm2 → W p l e0 room_1 s m #[Value.ref b] below meth cd H1 locs1 90 2265 Q (F0 m 1612 ls [])) (x : Int32) : W p l e0 room_1 s m #[Value.ref b] below meth cd H locs 90 2265 Q (F0 m 33 ls [.int (x &&& 63)]) := by
  obtain ⟨⟨hx9, hb, hr9, hml, hown, hts, hX, hbl, hlk⟩, -⟩ := id C0
  obtain ⟨j, hj, ej⟩ := and63 x
  rw [ej]
  have hjI : (nI j).toInt = (j : Int) := nI_toInt (by omega)
  match j, hj, hjI with
  | 0, _, hjI => exact lv_tableIn (off := 227) (tgt := 260) hx9 hb sw_dec (by rw [hjI]; decide) (by rw [hjI]; decide) (by rw [hjI]; rfl) (by decide) (lc_0 C0 hL hi hl hLI hA.1 hR kk)
  | 1, _, hjI => exact lv_tableIn (off := 260) (tgt := 293) hx9 hb sw_dec (by rw [hjI]; decide) (by rw [hjI]; decide) (by rw [hjI]; rfl) (by decide) (lc_1 C0 hL hi hl hLI hA.2.1 hR kk)
  | 2, _, hjI => exact lv_tableIn (off := 303) (tgt := 336) hx9 hb sw_dec (by rw [hjI]; decide) (by rw [hjI]; decide) (by rw [hjI]; rfl) (by decide) (lc_2 C0 hL hi hl hLI hA.2.2.1 hR kk)
  | 3, _, hjI => exact lv_tableIn (off := 336) (tgt := 369) hx9 hb sw_dec (by rw [hjI]; decide) (by rw [hjI]; decide) (by rw [hjI]; rfl) (by decide) (lc_3 C0 hL hi hl hLI hA.2.2.2.1 hR kk)
  | 4, _, hjI => exact lv_tableIn (off := 359) (tgt := 392) hx9 hb sw_dec (by rw [hjI]; decide) (by rw [hjI]; decide) (by rw [hjI]; rfl) (by decide) (lc_4 C0 hL hi hl hLI hA.2.2.2.2.1 hR kk)
  | 5, _, hjI => exact lv_tableIn (off := 422) (tgt := 455) hx9 hb sw_dec (by rw [hjI]; decide) (by rw [hjI]; decide) (by rw [hjI]; rfl) (by decide) (lc_5 C0 hL hi hl hLI hA.2.2.2.2.2.1 hR kk)
  | 6, _, hjI => exact lv_tableIn (off := 445) (tgt := 478) hx9 hb sw_dec (by rw [hjI]; decide) (by rw [hjI]; decide) (by rw [hjI]; rfl) (by decide) (lc_6 C0 hL hi hl hLI hA.2.2.2.2.2.2.1 hR kk)
  | 7, _, hjI => exact lv_tableIn (off := 478) (tgt := 511) hx9 hb sw_dec (by rw [hjI]; decide) (by rw [hjI]; decide) (by rw [hjI]; rfl) (by decide) (lc_7 C0 hL hi hl hLI hA.2.2.2.2.2.2.2.1 hR kk)
  | 8, _, hjI => exact lv_tableIn (off := 521) (tgt := 554) hx9 hb sw_dec (by rw [hjI]; decide) (by rw [hjI]; decide) (by rw [hjI]; rfl) (by decide) (lc_8 C0 hL hi hl hLI hA.2.2.2.2.2.2.2.2.1 hR kk)
  | 9, _, hjI => exact lv_tableIn (off := 544) (tgt := 577) hx9 hb sw_dec (by rw [hjI]; decide) (by rw [hjI]; decide) (by rw [hjI]; rfl) (by decide) (lc_9 C0 hL hi hl hLI hA.2.2.2.2.2.2.2.2.2.1 hR kk)
  | 10, _, hjI => exact lv_tableIn (off := 567) (tgt := 600) hx9 hb sw_dec (by rw [hjI]; decide) (by rw [hjI]; decide) (by rw [hjI]; rfl) (by decide) (lc_10 C0 hL hi hl hLI hA.2.2.2.2.2.2.2.2.2.2.1 hR kk)
  | 11, _, hjI => exact lv_tableIn (off := 600) (tgt := 633) hx9 hb sw_dec (by rw [hjI]; decide) (by rw [hjI]; decide) (by rw [hjI]; rfl) (by decide) (lc_11 C0 hL hi hl hLI hA.2.2.2.2.2.2.2.2.2.2.2.1 hR kk)
  | 12, _, hjI => exact lv_tableIn (off := 633) (tgt := 666) hx9 hb sw_dec (by rw [hjI]; decide) (by rw [hjI]; decide) (by rw [hjI]; rfl) (by decide) (lc_12 C0 hL hi hl hLI hA.2.2.2.2.2.2.2.2.2.2.2.2.1 hR kk)
  | 13, _, hjI => exact lv_tableIn (off := 666) (tgt := 699) hx9 hb sw_dec (by rw [hjI]; decide) (by rw [hjI]; decide) (by rw [hjI]; rfl) (by decide) (lc_13 C0 hL hi hl hLI hA.2.2.2.2.2.2.2.2.2.2.2.2.2.1 hR kk)
  | 14, _, hjI => exact lv_tableIn (off := 699) (tgt := 732) hx9 hb sw_dec (by rw [hjI]; decide) (by rw [hjI]; decide) (by rw [hjI]; rfl) (by decide) (lc_14 C0 hL hi hl hLI hA.2.2.2.2.2.2.2.2.2.2.2.2.2.2.1 hR kk)
  | 15, _, hjI => exact lv_tableIn (off := 732) (tgt := 765) hx9 hb sw_dec (by rw [hjI]; decide) (by rw [hjI]; decide) (by rw [hjI]; rfl) (by decide) (lc_15 C0 hL hi hl hLI hA.2.2.2.2.2.2.2.2.2.2.2.2.2.2.2.1 hR kk)
  | 16, _, hjI => exact lv_tableIn (off := 765) (tgt := 798) hx9 hb sw_dec (by rw [hjI]; decide) (by rw [hjI]; decide) (by rw [hjI]; rfl) (by decide) (lc_16 C0 hL hi hl hLI hA.2.2.2.2.2.2.2.2.2.2.2.2.2.2.2.2.1 hR kk)
  | 17, _, hjI => exact lv_tableIn (off := 788) (tgt := 821) hx9 hb sw_dec (by rw [hjI]; decide) (by rw [hjI]; decide) (by rw [hjI]; rfl) (by decide) (lc_17 C0 hL hi hl hLI hA.2.2.2.2.2.2.2.2.2.2.2.2.2.2.2.2.2.1 hR kk)
  | 18, _, hjI => exact lv_tableIn (off := 811) (tgt := 844) hx9 hb sw_dec (by rw [hjI]; decide) (by rw [hjI]; decide) (by rw [hjI]; rfl) (by decide) (lc_18 C0 hL hi hl hLI hA.2.2.2.2.2.2.2.2.2.2.2.2.2.2.2.2.2.2.1 hR kk)
  | 19, _, hjI => exact lv_tableIn (off := 844) (tgt := 877) hx9 hb sw_dec (by rw [hjI]; decide) (by rw [hjI]; decide) (by rw [hjI]; rfl) (by decide) (lc_19 C0 hL hi hl hLI hA.2.2.2.2.2.2.2.2.2.2.2.2.2.2.2.2.2.2.2.1 hR kk)
  | 20, _, hjI => exact lv_tableIn (off := 867) (tgt := 900) hx9 hb sw_dec (by rw [hjI]; decide) (by rw [hjI]; decide) (by rw [hjI]; rfl) (by decide) (lc_20 C0 hL hi hl hLI hA.2.2.2.2.2.2.2.2.2.2.2.2.2.2.2.2.2.2.2.2.1 hR kk)
  | 21, _, hjI => exact lv_tableIn (off := 880) (tgt := 913) hx9 hb sw_dec (by rw [hjI]; decide) (by rw [hjI]; decide) (by rw [hjI]; rfl) (by decide) (lc_21 C0 hL hi hl hLI hA.2.2.2.2.2.2.2.2.2.2.2.2.2.2.2.2.2.2.2.2.2.1 hR kk)
  | 22, _, hjI => exact lv_tableIn (off := 893) (tgt := 926) hx9 hb sw_dec (by rw [hjI]; decide) (by rw [hjI]; decide) (by rw [hjI]; rfl) (by decide) (lc_22 C0 hL hi hl hLI hA.2.2.2.2.2.2.2.2.2.2.2.2.2.2.2.2.2.2.2.2.2.2.1 hR kk)
  | 23, _, hjI => exact lv_tableIn (off := 906) (tgt := 939) hx9 hb sw_dec (by rw [hjI]; decide) (by rw [hjI]; decide) (by rw [hjI]; rfl) (by decide) (lc_23 C0 hL hi hl hLI hA.2.2.2.2.2.2.2.2.2.2.2.2.2.2.2.2.2.2.2.2.2.2.2.1 hR kk)
  | 24, _, hjI => exact lv_tableIn (off := 929) (tgt := 962) hx9 hb sw_dec (by rw [hjI]; decide) (by rw [hjI]; decide) (by rw [hjI]; rfl) (by decide) (lc_24 C0 hL hi hl hLI hA.2.2.2.2.2.2.2.2.2.2.2.2.2.2.2.2.2.2.2.2.2.2.2.2.1 hR kk)
  | 25, _, hjI => exact lv_tableIn (off := 952) (tgt := 985) hx9 hb sw_dec (by rw [hjI]; decide) (by rw [hjI]; decide) (by rw [hjI]; rfl) (by decide) (lc_25 C0 hL hi hl hLI hA.2.2.2.2.2.2.2.2.2.2.2.2.2.2.2.2.2.2.2.2.2.2.2.2.2.1 hR kk)
  | 26, _, hjI => exact lv_tableIn (off := 975) (tgt := 1008) hx9 hb sw_dec (by rw [hjI]; decide) (by rw [hjI]; decide) (by rw [hjI]; rfl) (by decide) (lc_26 C0 hL hi hl hLI hA.2.2.2.2.2.2.2.2.2.2.2.2.2.2.2.2.2.2.2.2.2.2.2.2.2.2.1 hR kk)
  | 27, _, hjI => exact lv_tableIn (off := 988) (tgt := 1021) hx9 hb sw_dec (by rw [hjI]; decide) (by rw [hjI]; decide) (by rw [hjI]; rfl) (by decide) (lc_27 C0 hL hi hl hLI hA.2.2.2.2.2.2.2.2.2.2.2.2.2.2.2.2.2.2.2.2.2.2.2.2.2.2.2.1 hR kk)
  | 28, _, hjI => exact lv_tableIn (off := 1011) (tgt := 1044) hx9 hb sw_dec (by rw [hjI]; decide) (by rw [hjI]; decide) (by rw [hjI]; rfl) (by decide) (lc_28 C0 hL hi hl hLI hA.2.2.2.2.2.2.2.2.2.2.2.2.2.2.2.2.2.2.2.2.2.2.2.2.2.2.2.2.1 hR kk)
  | 29, _, hjI => exact lv_tableIn (off := 1034) (tgt := 1067) hx9 hb sw_dec (by rw [hjI]; decide) (by rw [hjI]; decide) (by rw [hjI]; rfl) (by decide) (lc_29 C0 hL hi hl hLI hA.2.2.2.2.2.2.2.2.2.2.2.2.2.2.2.2.2.2.2.2.2.2.2.2.2.2.2.2.2.1 hR kk)
  | 30, _, hjI => exact lv_tableIn (off := 1057) (tgt := 1090) hx9 hb sw_dec (by rw [hjI]; decide) (by rw [hjI]; decide) (by rw [hjI]; rfl) (by decide) (lc_30 C0 hL hi hl hLI hA.2.2.2.2.2.2.2.2.2.2.2.2.2.2.2.2.2.2.2.2.2.2.2.2.2.2.2.2.2.2.1 hR kk)
  | 31, _, hjI => exact lv_tableIn (off := 1090) (tgt := 1123) hx9 hb sw_dec (by rw [hjI]; decide) (by rw [hjI]; decide) (by rw [hjI]; rfl) (by decide) (lc_31 C0 hL hi hl hLI hA.2.2.2.2.2.2.2.2.2.2.2.2.2.2.2.2.2.2.2.2.2.2.2.2.2.2.2.2.2.2.2.1 hR kk)
  | 32, _, hjI => exact lv_tableIn (off := 1103) (tgt := 1136) hx9 hb sw_dec (by rw [hjI]; decide) (by rw [hjI]; decide) (by rw [hjI]; rfl) (by decide) (lc_32 C0 hL hi hl hLI hA.2.2.2.2.2.2.2.2.2.2.2.2.2.2.2.2.2.2.2.2.2.2.2.2.2.2.2.2.2.2.2.2.1 hR kk)
  | 33, _, hjI => exact lv_tableIn (off := 1126) (tgt := 1159) hx9 hb sw_dec (by rw [hjI]; decide) (by rw [hjI]; decide) (by rw [hjI]; rfl) (by decide) (lc_33 C0 hL hi hl hLI hA.2.2.2.2.2.2.2.2.2.2.2.2.2.2.2.2.2.2.2.2.2.2.2.2.2.2.2.2.2.2.2.2.2.1 hR kk)
  | 34, _, hjI => exact lv_tableIn (off := 1149) (tgt := 1182) hx9 hb sw_dec (by rw [hjI]; decide) (by rw [hjI]; decide) (by rw [hjI]; rfl) (by decide) (lc_34 C0 hL hi hl hLI hA.2.2.2.2.2.2.2.2.2.2.2.2.2.2.2.2.2.2.2.2.2.2.2.2.2.2.2.2.2.2.2.2.2.2.1 hR kk)
  | 35, _, hjI => exact lv_tableIn (off := 1172) (tgt := 1205) hx9 hb sw_dec (by rw [hjI]; decide) (by rw [hjI]; decide) (by rw [hjI]; rfl) (by decide) (lc_35 C0 hL hi hl hLI hA.2.2.2.2.2.2.2.2.2.2.2.2.2.2.2.2.2.2.2.2.2.2.2.2.2.2.2.2.2.2.2.2.2.2.2.1 hR kk)
  | 36, _, hjI => exact lv_tableIn (off := 1195) (tgt := 1228) hx9 hb sw_dec (by rw [hjI]; decide) (by rw [hjI]; decide) (by rw [hjI]; rfl) (by decide) (lc_36 C0 hL hi hl hLI hA.2.2.2.2.2.2.2.2.2.2.2.2.2.2.2.2.2.2.2.2.2.2.2.2.2.2.2.2.2.2.2.2.2.2.2.2.1 hR kk)
  | 37, _, hjI => exact lv_tableIn (off := 1218) (tgt := 1251) hx9 hb sw_dec (by rw [hjI]; decide) (by rw [hjI]; decide) (by rw [hjI]; rfl) (by decide) (lc_37 C0 hL hi hl hLI hA.2.2.2.2.2.2.2.2.2.2.2.2.2.2.2.2.2.2.2.2.2.2.2.2.2.2.2.2.2.2.2.2.2.2.2.2.2.1 hR kk)
  | 38, _, hjI => exact lv_tableIn (off := 1241) (tgt := 1274) hx9 hb sw_dec (by rw [hjI]; decide) (by rw [hjI]; decide) (by rw [hjI]; rfl) (by decide) (lc_38 C0 hL hi hl hLI hA.2.2.2.2.2.2.2.2.2.2.2.2.2.2.2.2.2.2.2.2.2.2.2.2.2.2.2.2.2.2.2.2.2.2.2.2.2.2.1 hR kk)
  | 39, _, hjI => exact lv_tableIn (off := 1264) (tgt := 1297) hx9 hb sw_dec (by rw [hjI]; decide) (by rw [hjI]; decide) (by rw [hjI]; rfl) (by decide) (lc_39 C0 hL hi hl hLI hA.2.2.2.2.2.2.2.2.2.2.2.2.2.2.2.2.2.2.2.2.2.2.2.2.2.2.2.2.2.2.2.2.2.2.2.2.2.2.2.1 hR kk)
  | 40, _, hjI => exact lv_tableIn (off := 1287) (tgt := 1320) hx9 hb sw_dec (by rw [hjI]; decide) (by rw [hjI]; decide) (by rw [hjI]; rfl) (by decide) (lc_40 C0 hL hi hl hLI hA.2.2.2.2.2.2.2.2.2.2.2.2.2.2.2.2.2.2.2.2.2.2.2.2.2.2.2.2.2.2.2.2.2.2.2.2.2.2.2.2.1 hR kk)
  | 41, _, hjI => exact lv_tableIn (off := 1310) (tgt := 1343) hx9 hb sw_dec (by rw [hjI]; decide) (by rw [hjI]; decide) (by rw [hjI]; rfl) (by decide) (lc_41 C0 hL hi hl hLI hA.2.2.2.2.2.2.2.2.2.2.2.2.2.2.2.2.2.2.2.2.2.2.2.2.2.2.2.2.2.2.2.2.2.2.2.2.2.2.2.2.2.1 hR kk)
  | 42, _, hjI => exact lv_tableIn (off := 1333) (tgt := 1366) hx9 hb sw_dec (by rw [hjI]; decide) (by rw [hjI]; decide) (by rw [hjI]; rfl) (by decide) (lc_42 C0 hL hi hl hLI hA.2.2.2.2.2.2.2.2.2.2.2.2.2.2.2.2.2.2.2.2.2.2.2.2.2.2.2.2.2.2.2.2.2.2.2.2.2.2.2.2.2.2.1 hR kk)
  | 43, _, hjI => exact lv_tableIn (off := 1356) (tgt := 1389) hx9 hb sw_dec (by rw [hjI]; decide) (by rw [hjI]; decide) (by rw [hjI]; rfl) (by decide) (lc_43 C0 hL hi hl hLI hA.2.2.2.2.2.2.2.2.2.2.2.2.2.2.2.2.2.2.2.2.2.2.2.2.2.2.2.2.2.2.2.2.2.2.2.2.2.2.2.2.2.2.2.1 hR kk)
  | 44, _, hjI => exact lv_tableIn (off := 1399) (tgt := 1432) hx9 hb sw_dec (by rw [hjI]; decide) (by rw [hjI]; decide) (by rw [hjI]; rfl) (by decide) (lc_44 C0 hL hi hl hLI hA.2.2.2.2.2.2.2.2.2.2.2.2.2.2.2.2.2.2.2.2.2.2.2.2.2.2.2.2.2.2.2.2.2.2.2.2.2.2.2.2.2.2.2.2.1 hR kk)
  | 45, _, hjI => exact lv_tableIn (off := 1432) (tgt := 1465) hx9 hb sw_dec (by rw [hjI]; decide) (by rw [hjI]; decide) (by rw [hjI]; rfl) (by decide) (lc_45 C0 hL hi hl hLI hA.2.2.2.2.2.2.2.2.2.2.2.2.2.2.2.2.2.2.2.2.2.2.2.2.2.2.2.2.2.2.2.2.2.2.2.2.2.2.2.2.2.2.2.2.2.1 hR kk)
  | 46, _, hjI => exact lv_tableIn (off := 1465) (tgt := 1498) hx9 hb sw_dec (by rw [hjI]; decide) (by rw [hjI]; decide) (by rw [hjI]; rfl) (by decide) (lc_46 C0 hL hi hl hLI hA.2.2.2.2.2.2.2.2.2.2.2.2.2.2.2.2.2.2.2.2.2.2.2.2.2.2.2.2.2.2.2.2.2.2.2.2.2.2.2.2.2.2.2.2.2.2.1 hR kk)
  | 47, _, hjI => exact lv_tableIn (off := 1478) (tgt := 1511) hx9 hb sw_dec (by rw [hjI]; decide) (by rw [hjI]; decide) (by rw [hjI]; rfl) (by decide) (lc_47 C0 hL hi hl hLI hA.2.2.2.2.2.2.2.2.2.2.2.2.2.2.2.2.2.2.2.2.2.2.2.2.2.2.2.2.2.2.2.2.2.2.2.2.2.2.2.2.2.2.2.2.2.2.2.1 hR kk)
  | 48, _, hjI => exact lv_tableIn (off := 1492) (tgt := 1525) hx9 hb sw_dec (by rw [hjI]; decide) (by rw [hjI]; decide) (by rw [hjI]; rfl) (by decide) (lc_48 C0 hL hi hl hLI hA.2.2.2.2.2.2.2.2.2.2.2.2.2.2.2.2.2.2.2.2.2.2.2.2.2.2.2.2.2.2.2.2.2.2.2.2.2.2.2.2.2.2.2.2.2.2.2.2.1 hR kk)
  | 49, _, hjI => exact lv_tableIn (off := 1506) (tgt := 1539) hx9 hb sw_dec (by rw [hjI]; decide) (by rw [hjI]; decide) (by rw [hjI]; rfl) (by decide) (lc_49 C0 hL hi hl hLI hA.2.2.2.2.2.2.2.2.2.2.2.2.2.2.2.2.2.2.2.2.2.2.2.2.2.2.2.2.2.2.2.2.2.2.2.2.2.2.2.2.2.2.2.2.2.2.2.2.2.1 hR kk)
  | 50, _, hjI => exact lv_tableIn (off := 1529) (tgt := 1562) hx9 hb sw_dec (by rw [hjI]; decide) (by rw [hjI]; decide) (by rw [hjI]; rfl) (by decide) (lc_50 C0 hL hi hl hLI hA.2.2.2.2.2.2.2.2.2.2.2.2.2.2.2.2.2.2.2.2.2.2.2.2.2.2.2.2.2.2.2.2.2.2.2.2.2.2.2.2.2.2.2.2.2.2.2.2.2.2.1 hR kk)
  | 51, _, hjI => exact lv_tableIn (off := 1542) (tgt := 1575) hx9 hb sw_dec (by rw [hjI]; decide) (by rw [hjI]; decide) (by rw [hjI]; rfl) (by decide) (lc_51 C0 hL hi hl hLI hA.2.2.2.2.2.2.2.2.2.2.2.2.2.2.2.2.2.2.2.2.2.2.2.2.2.2.2.2.2.2.2.2.2.2.2.2.2.2.2.2.2.2.2.2.2.2.2.2.2.2.2.1 hR kk)
  | 52, _, hjI => exact lv_tableIn (off := 1565) (tgt := 1598) hx9 hb sw_dec (by rw [hjI]; decide) (by rw [hjI]; decide) (by rw [hjI]; rfl) (by decide) (lc_52 C0 hL hi hl hLI hA.2.2.2.2.2.2.2.2.2.2.2.2.2.2.2.2.2.2.2.2.2.2.2.2.2.2.2.2.2.2.2.2.2.2.2.2.2.2.2.2.2.2.2.2.2.2.2.2.2.2.2.2 hR kk)
  | j + 53, _, hjI => exact lv_tableOut (tgt := 1612) hx9 hb sw_dec (Or.inr (by rw [hjI]; omega)) (by decide) (kk hx hm H locs hLI hR)
set_option maxHeartbeats 4000000 in
set_option maxRecDepth 100000 in
/-- THE LAW'S LOOP -/
theorem law_loop {p : Program} {l : Launch} {e0 : Env} {s : State} {m : MethodId} {below : List Frame} {meth : Method} {cd : Code} {dC : Nat → ClassId} {dI : Nat → Nat → Nat} {dA : Nat → ClassId} {qX qM : Nat → Nat → Nat} {b L : Nat} {xs : Nat → Int32} {Rel : AH → AH → Prop} (C0 : LCx p s m meth cd b L xs dC dI dA qX qM) (hL : L ≤ 384) (hA : AllEq Rel) : ∀ (n i : Nat) (hx hm : AH) (H : Heap) (locs : List Loc) (ls : Array Slot), L + 6 ≤ i + n → i ≤ L → LI s dC dI dA qX qM hx hm H locs → Rel hx hm → lv_has ls 4 [(0, .ref b), (1, .ref (qX 0 0)), (2, .ref (qM 34 0)), (3, .int (nI i))] →
    W p l e0 room_1 s m #[Value.ref b] below meth cd H locs 90 2265 (lw_Z below #[Value.ref b] s) (F0 m 18 ls []) := by
  obtain ⟨⟨hx9, hb, hr9, hml, hown, hts, hX, hbl, hlk⟩, -⟩ := id C0
  intro n
  induction n with
  | zero =>
    intro i hx hm H locs ls hin hi4 hLI hR hl
    exfalso
    omega
  | succ n ih =>
    intro i hx hm H locs ls hin hi4 hLI hR hl
    have hS := hLI.2.2
    refine lv_iload_n hx9 hb (ld_ lk0 10 rfl) rfl (lv_at hl 3 rfl) ?_
    refine lv_aload_n hx9 hb (ld_ lk0 11 rfl) rfl (lv_at hl 0 rfl) ?_
    refine va_slen hx9 hb hX hbl (fun h9 => Nat.not_le.mpr hbl h9) hS (ld_ lk0 12 rfl) ?_
    refine lv_bipush (v := 6) hx9 hb (ld_ lk0 13 rfl) (by decide) ?_
    refine lv_isub hx9 hb (ld_ lk0 14 rfl) ?_
    have e6 : (nI L - 6 : Int32).toInt = (L : Int) - 6 := pk_sub_toInt (b := 6) (by omega) (by omega)
    have ei : (nI i).toInt = (i : Int) := nI_toInt (by omega)
    refine lv_icmp_gt (tgt := 1618) hx9 hb (ld_ lk0 15 rfl) (by decide) (fun hc => ?_) (fun hc => ?_)
    · refine lv_iconst (v := 1) hx9 hb (ld_ lk17 38 rfl) (by decide) ?_
      refine va_forget (fun q hq => hS.2.2 q hq) ?_
      refine W.widen (k := 600000) (n := 7302250) (by decide) (by decide) ?_
      exact lw_ret hx9 hb hr9 hlk (ld_ lk17 39 rfl)
    · have hi : i + 6 ≤ L := by
        have h9 : ¬ ((nI L - 6 : Int32).toInt < (nI i).toInt) := fun z => hc (Int32.lt_iff_toInt_lt.mpr z)
        rw [e6, ei] at h9
        omega
      refine lv_aload_n hx9 hb (ld_ lk0 16 rfl) rfl (lv_at hl 0 rfl) ?_
      refine lv_iload_n hx9 hb (ld_ lk0 17 rfl) rfl (lv_at hl 3 rfl) ?_
      refine va_sld hx9 hb hX hbl (fun h9 => Nat.not_le.mpr hbl h9) hS (vp_in_nI (show i < L by omega) (by omega)) (ld_ lk0 18 rfl) ?_
      refine lv_bipush (v := 63) hx9 hb (ld_ lk0 19 rfl) (by decide) ?_
      refine lv_iand hx9 hb (ld_ lk0 20 rfl) ?_
      refine law_sw C0 hL hi hl hLI hA hR (fun hx2 hm2 H1 locs1 hLI2 hR2 => ?_) _
      refine lv_iinc (v := nI (i + 6)) (lv' := [(3, .int (nI (i + 6))), (0, .ref b), (1, .ref (qX 0 0)), (2, .ref (qM 34 0))]) hx9 hb (ld_ lk17 36 rfl) hl (k := 3) rfl (by rw [← nI_add]; rfl) (by decide) rfl (fun ls hl => ?_)
      refine lv_goto (tgt := 18) hx9 hb (ld_ lk17 37 rfl) (by decide) ?_
      exact ih (i + 6) hx2 hm2 H1 locs1 ls (by omega) (by omega) hLI2 hR2 (lv_sub hl [1, 2, 3, 0] rfl)
