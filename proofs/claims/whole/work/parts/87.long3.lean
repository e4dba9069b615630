theorem e_longest : E2 Rel f_X11_longest f_X12_longest := by
  intro a a2 hx hm h
  show OR _ _
  obtain ⟨b, p, s, d⟩ := h
  have h : Rel hx hm := ⟨b, p, s, d⟩
  have hn := d.1.n10
  unfold f_X11_longest f_X12_longest
  rw [x_isClaim d.x, m_isClaim d.m, bd_some, bd_some, if10, if10]
  by_cases hb : inb a p.n = true
  rotate_left
  · rw [if_neg hb, if_neg hb]; exact OR.same h rfl rfl
  obtain ⟨x, hxn, rfl⟩ := inb_ex hb
  rw [if_pos hb, if_pos hb, x_isRow, m_isRow, bd_some, bd_some, if10, if10]
  by_cases hb2 : inb a2 6 = true
  rotate_left
  · rw [if_neg hb2, if_neg hb2]; exact OR.same h rfl rfl
  obtain ⟨r, hr, rfl⟩ := inb_ex hb2
  rw [if_pos hb2, if_pos hb2]
  have hRx : bt (RC p s x) x = true := (bt_RC d.1 hxn x).mpr (Rch.cl p s x).1
  have hRs : sub (RC p s x) p.n := fun i hi => ((bt_RC d.1 hxn i).mp hi).lt d.1 hxn
  have hFs : sub (rmI (RC p s x) x) p.n := sub_and hRs
  have c1 := cnt_rm (F := RC p s x) (y := x) (by omega) hRx
  have c2 := cnt14 (x := RC p s x) (n := p.n) (by omega) hRs
  have c3 := cnt_le (bt (RC p s x)) p.n
  have bv0 : BV p (0, fun _ => 0) := ⟨by show 0 ≤ 10; omega, fun i hi => by have : i < 0 := hi; omega⟩
  -- the class
  unfold f_X10_longestFrom c_X10_longestFrom_17
  have s1 : SX hx (hsI (hfl hx 22 0 0 p.n (fun x => nxs p s x p.m)) 19 0 7 (-1)) := (SX.rfl.fl (by omega)).sI (by omega)
  have cx := d.x.fr s1.k
  obtain ⟨h2, r1, r2, r3, r4, r5⟩ := x_go 12 1 (fun _ => x) (rmI (RC p s x) x) (0, fun _ => 0) _ cx (fun y hy => by rw [hsI_k (by decide), hfl_1, if_pos (by omega)]; rfl) (fun i hi => by omega) (fun _ _ => hxn) ⟨by rw [hsI_1, if_pos ⟨rfl, rfl, rfl⟩]; rfl, fun i hi => by have : i < 0 := hi; omega⟩ bv0 hFs (by omega) (by omega) (by omega)
  have r1' : f_X10_goFurther 12 (nI x) 0 (RC p s x &&& (((1 : Int32) <<< (nI x &&& 31)) ^^^ (-1))) (hsI (hfl hx 22 0 0 p.n (fun x => nxs p s x p.m)) 19 0 7 (-1)) = some ((), h2) := r1
  rw [x_long2 d.x, bd_some, x_reach cx hxn, bd_some, r1', bd_some, bd_some]
  -- the reference
  have i0 : (0 : Int32).toNatClampNeg = 0 := rfl
  have t1 : SM hm (hsI (hsI hm 34 0 38 0) 57 0 0 (nI x)) := (SM.rfl.sI (by omega)).sI (by omega)
  obtain ⟨g2, m1, m2, m3⟩ := m_go hxn 12 1 (fun _ => x) (rmI (RC p s x) x) ((1 : Int32) <<< (nI x &&& 31)) (0, fun _ => 0) _ (d.m.fr t1.k) (fun i hi => ⟨by rw [hsI_1, if_pos ⟨rfl, rfl, by omega⟩], hxn⟩) (Rch.cl p s x).1 (fun i hi => by
    rw [bt_sl _ (by omega) _ (by omega), Bool.eq_iff_iff, bt_rmI (by omega), bt_RC d.1 hxn, Bool.and_eq_true, Bool.not_eq_true', decide_eq_false_iff_not]
    constructor
    · exact fun z => ⟨@decide_eq_true _ (Classical.propDecidable _) z.1, z.2⟩
    · exact fun z => ⟨@of_decide_eq_true _ (Classical.propDecidable _) z.1, z.2⟩) ⟨by rw [hsI_k (by decide), hsI_1, if_pos ⟨rfl, rfl, rfl⟩]; rfl, fun i hi => by have : i < 0 := hi; omega⟩ bv0 (by omega) (by omega) (by omega)
  have m1' : f_X12_layLongest 12 1 ((1 : Int32) <<< (nI x &&& 31)) (hsI (hsI hm 34 0 38 0) 57 0 0 (nI x)) = some ((), g2) := m1
  rw [i0, m1', bd_some]
  have vv := dg_v d.1 s 12 1 (fun _ => x) (rmI (RC p s x) x) (0, fun _ => 0) (by omega) (fun _ _ => hxn) bv0
  generalize dg p s 12 1 (fun _ => x) (rmI (RC p s x) x) (0, fun _ => 0) = best at r5 m3 vv
  have hc := vv.1
  have e1 : nI best.1 - 1 + 1 = nI best.1 := Int32.sub_add_cancel _ _
  have hl := (b.sc (s1.tr r2) (t1.tr m2.1)).lay hr (n := best.1) (by omega) (fun i => h2.1 20 0 i) (fun i => g2.1 58 0 i) (fun i hi => by rw [r5.2 i hi, m3.2 i hi])
  rw [r5.1, if_pos hb2, nI_cl (by omega), e1, x_takeL hc, bd_some, m3.1, m_layB hr hc, bd_some]
  have e38 : (hfl (hsI g2 36 0 r (nI best.1)) 37 0 (40 * r) 40 (fun i => if i < best.1 then g2.1 58 0 i else 0)).1 34 0 38 = nI best.1 := by
    rw [hfl_k (by decide), hsI_k (by decide)]; exact m3.1
  rw [e38]
  exact ⟨_, _, _, rfl, rfl, hl.1, p, s, (d.fr (s1.tr r2).k (t1.tr m2.1).k).fr hl.2.1 hl.2.2⟩
