/-! ===== the constructors: a machine over a list of cells that grows ===== -/
abbrev CE : Type := (Nat × List AV) ⊕ (Nat × Nat × ((Nat → Int32) ⊕ ((Nat → Int64) ⊕ (Nat → Option Nat))))
/-- index, locals, stack, cells, how many cells are new, how many slots -/
abbrev CC : Type := Nat × List AV × List AV × List CE × Nat × Nat
def qa (ad : List Nat) : Nat → Nat → Nat := fun _ p => ad.getD p 0
def ccE (dA : Nat → ClassId) (ad : List Nat) (e : CE) : va_E := match e with
  | .inl (ci, vs) => .inr (ci, vs.map (cvv (qa ad)))
  | .inr (t, n, .inl f) => .inl (dA t, n, .inl f)
  | .inr (t, n, .inr (.inl f)) => .inl (dA t, n, .inr (.inl f))
  | .inr (t, n, .inr (.inr f)) => .inl (dA t, n, .inr (.inr (.inr (.inr (fun j => (f j).map (fun p => ad.getD p 0))))))
def wsC (dA : Nat → ClassId) (ad : List Nat) (hp : List CE) : va_W := List.zipWith (fun a e => (a, ccE dA ad e)) ad hp
def ce0 : CE := .inl (99, [])
def hnth : List CE → Nat → CE
  | [], _ => ce0
  | x :: _, 0 => x
  | _ :: r, n + 1 => hnth r n
def dflV (ty : Option FieldType) : AV := match ty with
  | some .int => .inl (.int 0)
  | some .boolean => .inl (.int 0)
  | some .long => .inl (.long 0)
  | _ => .inl .null
def dfl (ci : Nat) : List AV := match vwCl[ci]? with
  | some (_, T, N) => (List.range N).map (fun k => dflV (parseFieldDescriptor (T k).2.2.1))
  | none => []
def okV (c : Nat) (u : AV) : Bool := match c, u with
  | 0, .inl (.int _) => true
  | 1, .inl (.long _) => true
  | 3, .inr _ => true
  | _, _ => false
def cmI (op a b c : Nat) (v : Int32) (w : Int64) (x : CC) : Option CC := match x with
  | (ix, L, st, hp, mc, ms) => match op with
    | 0 => some (ix + 1, L, .inl (.int v) :: st, hp, mc, ms)
    | 1 => some (ix + 1, L, .inl (.long w) :: st, hp, mc, ms)
    | 2 => match nth L a with
      | .inl (.int y) => some (ix + 1, L, .inl (.int y) :: st, hp, mc, ms)
      | _ => none
    | 4 => match nth L a with
      | .inr y => some (ix + 1, L, .inr y :: st, hp, mc, ms)
      | _ => none
    | 5 => match st with
      | .inl (.int y) :: r => some (ix + 1, st1 L a (.inl (.int y)), r, hp, mc, ms)
      | _ => none
    | 8 => match nth L a with
      | .inl (.int y) => some (ix + 1, st1 L a (.inl (.int (y + v))), st, hp, mc, ms)
      | _ => none
    | 19 => match st with
      | .inl (.int y) :: .inl (.int z) :: r => if a = 3 then some (if y ≤ z then b else ix + 1, L, r, hp, mc, ms) else none
      | _ => none
    | 21 => some (b, L, st, hp, mc, ms)
    | 22 => match st with
      | .inr (_, p) :: r => match hnth hp p with
        | .inl (ci, vs) => if ci = a then match nth vs b with
            | .inr y => some (ix + 1, L, .inr y :: r, hp, mc, ms)
            | _ => none
          else none
        | _ => none
      | _ => none
    | 23 => match st with
      | u :: .inr (_, p) :: r => match hnth hp p with
        | .inl (ci, vs) => if ci = a ∧ b < vs.length ∧ okV c u = true then some (ix + 1, L, r, hp.set p (.inl (ci, vs.set b u)), mc, ms) else none
        | _ => none
      | _ => none
    | 28 => match st with
      | .inl (.int y) :: .inl (.int j) :: .inr (_, p) :: r => match hnth hp p with
        | .inr (0, n, .inl f) => if inb j n = true then some (ix + 1, L, r, hp.set p (.inr (0, n, .inl (upd f j.toNatClampNeg y))), mc, ms) else none
        | _ => none
      | _ => none
    | 32 => match st with
      | .inr y :: r => some (ix + 1, L, .inr y :: .inr y :: r, hp, mc, ms)
      | _ => none
    | 60 => some (ix + 1, L, .inr (0, hp.length) :: st, hp ++ [.inl (a, dfl a)], mc + 1, ms + b)
    | 61 => match st with
      | .inl (.int n) :: r => if ¬ n < 0 ∧ n < 1000 then (match a with
          | 3 => some (ix + 1, L, .inr (0, hp.length) :: r, hp ++ [.inr (3, n.toNatClampNeg, .inr (.inl (fun _ => 0)))], mc + 1, ms + n.toNatClampNeg)
          | t => some (ix + 1, L, .inr (0, hp.length) :: r, hp ++ [.inr (t, n.toNatClampNeg, .inl (fun _ => 0))], mc + 1, ms + n.toNatClampNeg)) else none
      | _ => none
    | 62 => match st with
      | .inl (.int n) :: r => if ¬ n < 0 ∧ n < 1000 then some (ix + 1, L, .inr (0, hp.length) :: r, hp ++ [.inr (a, n.toNatClampNeg, .inr (.inr (fun _ => none)))], mc + 1, ms + n.toNatClampNeg) else none
      | _ => none
    | 63 => match st with
      | .inr (_, pv) :: .inl (.int j) :: .inr (_, p) :: r => match hnth hp p, hnth hp pv with
        | .inr (t, n, .inr (.inr f)), .inl (ci, _) => if inb j n = true ∧ t = a ∧ ci = b then some (ix + 1, L, r, hp.set p (.inr (t, n, .inr (.inr (va_up f j.toNatClampNeg (some pv))))), mc, ms) else none
        | _, _ => none
      | _ => none
    | _ => none
/-- op 64: Object's constructor; op 65: a constructor of the program; op 53: the end -/
def cmR (P : Nat → List IE) : Nat → Nat → List IE → CC → Option (List CE × Nat × Nat)
  | 0, _, _, _ => none
  | n + 1, d, C, x => match cget C x.1 with
    | (_, _, op, _, a, b, c, _, v, w, _, _) => match op with
      | 53 => match x.2.2.1 with
        | [] => some (x.2.2.2.1, x.2.2.2.2.1, x.2.2.2.2.2)
        | _ => none
      | 64 => match x.2.2.1 with
        | .inr _ :: r => match Nat.ble (wsm r) 8 with
          | true => cmR P n d C (x.1 + 1, x.2.1, r, x.2.2.2.1, x.2.2.2.2.1, x.2.2.2.2.2)
          | false => none
        | _ => none
      | 65 => match d with
        | 0 => none
        | d' + 1 => match pop b [] x.2.2.1 with
          | some (args, rest) => match Nat.ble (wsm rest) 8 && Nat.ble (lay1 args).length c && (match args with
              | .inr _ :: _ => true
              | _ => false) with
            | true => match cmR P n d' (P a) (0, mkL c args, [], x.2.2.2.1, 0, 0) with
              | some (hp', m1, s1) => cmR P n (d' + 1) C (x.1 + 1, x.2.1, rest, hp', x.2.2.2.2.1 + m1, x.2.2.2.2.2 + s1)
              | none => none
            | false => none
          | none => none
      | _ => match cmI op a b c v w x with
        | some y => cmR P n d C y
        | none => none
/-! what such rows must be -/
def tyK (c : Nat) (ty : Option FieldType) : Bool := match c, ty with
  | 0, some .int => true
  | 1, some .long => true
  | 3, some (.object _) => true
  | 3, some (.array _) => true
  | _, _ => false
def oaC (t : Nat) : String := match t with
  | 4 => "WhyRoom$Row"
  | 5 => "WhyRoom$Text"
  | _ => "WhyRoom$State"
def atC (t : Nat) : ArrayType := match t with
  | 0 => .int
  | 1 => .byte
  | 2 => .boolean
  | _ => .long
/-- CL: class links (own, index, class number) -/
def okC (CT : List MD) (FL ML : FLT) (CL : List (String × Nat × Nat)) (own : String) (C : List IE) (ix : Nat) (X : IE) : Bool := match X with
  | (pc, ln, op, ins, a, b, c, e, v, w, _, _) => match op with
    | 0 => match ins with
      | .iconst n => decide (ln = 1 ∧ Int32.ofInt n = v)
      | .bipush n => decide (ln = 2 ∧ (Int8.ofInt n).toInt32 = v)
      | .sipush n => decide (ln = 3 ∧ (Int16.ofInt n).toInt32 = v)
      | _ => false
    | 1 => match ins with
      | .lconst n => decide (ln = 1 ∧ Int64.ofNat (n : Nat) = w)
      | _ => false
    | 2 => match ins with
      | .iload_n n => decide (ln = 1 ∧ (n : Nat) = a)
      | _ => false
    | 4 => match ins with
      | .aload_n n => decide (ln = 1 ∧ (n : Nat) = a)
      | _ => false
    | 5 => match ins with
      | .istore_n n => decide (ln = 1 ∧ (n : Nat) = a)
      | _ => false
    | 8 => match ins with
      | .iinc n z => decide (ln = 3 ∧ n = a ∧ Int32.ofInt z = v)
      | _ => false
    | 19 => match ins with
      | .if_icmp cn off => decide (ln = 3 ∧ cn = .ge ∧ (pc : Int) + off = (pcA C b : Nat))
      | _ => false
    | 21 => match ins with
      | .goto off => decide (ln = 3 ∧ (pc : Int) + off = (pcA C b : Nat))
      | _ => false
    | 22 => match ins with
      | .getfield i => decide (ln = 3) && decide (FL[e]? = some (own, i, a, b))
      | _ => false
    | 23 => match ins with
      | .putfield i => decide (ln = 3) && decide (FL[e]? = some (own, i, a, b)) && (match vwCl[a]? with
        | some (Cn, T, _) => tyK c (parseFieldDescriptor (T b).2.2.1) && (decide ((T b).2.2.2 = false) || decide (Cn = own))
        | none => false)
      | _ => false
    | 28 => decide (ln = 1 ∧ ins = .iastore)
    | 32 => decide (ln = 1 ∧ ins = .dup)
    | 60 => match ins with
      | .new i => decide (ln = 3) && decide (CL[e]? = some (own, i, a)) && (match vwCl[a]? with
        | some (_, _, N) => decide (N = b)
        | none => false)
      | _ => false
    | 61 => decide (ln = 2 ∧ ins = .newarray (atC a) ∧ a < 4)
    | 62 => match ins with
      | .anewarray i => decide (ln = 3) && decide (CL[e]? = some (own, i, b)) && decide ((vwCl[b]?).map (fun r => r.1) = some (oaC a)) && decide (4 ≤ a ∧ a < 7)
      | _ => false
    | 63 => decide (ln = 1 ∧ ins = .aastore) && decide ((vwCl[b]?).map (fun r => r.1) = some (oaC a)) && decide (4 ≤ a ∧ a < 7)
    | 64 => match ins with
      | .invokespecial i => decide (ln = 3) && decide (ML[e]? = some (own, i, 8, 0))
      | _ => false
    | 65 => match ins with
      | .invokespecial i => decide (ln = 3) && (decide (ML[e]? = some (own, i, 0, a)) || decide (ML[e]? = some (own, i, 2, a))) && (match CT[a]? with
        | some md => decide (md.2.2.2.1 = c) && decide ((parseMethodDescriptor md.2.1.desc).map (fun d => d.parameters.length + 1) = some b)
        | none => false)
      | _ => false
    | 53 => decide (ln = 1 ∧ ins = .return_)
    | _ => false
def okN (CT : List MD) (FL ML : FLT) (CL : List (String × Nat × Nat)) (md : MD) : Bool := match md with
  | (own, y, bytes, nL, ret, C) => decide (ret = none) && decide (y.name = "<init>") && (List.range C.length).all (fun ix => decide (decode bytes (pcA C ix) = .ok ((cget C ix).2.2.2.1, (cget C ix).2.1)) && okC CT FL ML CL own C ix (cget C ix) && (decide ((cget C ix).2.2.1 = 21) || decide ((cget C ix).2.2.1 = 53) || decide (pcA C (ix + 1) = pcA C ix + (cget C ix).2.1)) && lcO nL (cget C ix))
def MLokC (CT : List MD) (t : String × Nat × Nat × Nat) : Prop := match t.2.2.1 with
  | 8 => Cond.methodLink t.1 t.2.1 Lib.objectInit ∈ lw_g
  | 0 => ∃ md, CT[t.2.2.2]? = some md ∧ mdB md ∧ Cond.methodLink t.1 t.2.1 md.2.1 ∈ lw_g ∧ Cond.instanceMethod md.2.1 ∈ lw_g
  | _ => ∃ md, CT[t.2.2.2]? = some md ∧ mdB md ∧ (∃ host, (t.1, t.2.1, md.2.1, host) ∈ NW) ∧ Cond.instanceMethod md.2.1 ∈ lw_g
def CLok (t : String × Nat × Nat) : Prop := ∃ r : vw_C, vwCl[t.2.2]? = some r ∧ Cond.classLink t.1 t.2.1 r.1 ∈ lw_g ∧ Cond.instantiable r.1 r.2.2 ∈ lw_g ∧ Cond.initialized r.1 ∈ lw_g
def POKC (CT : List MD) (FL ML : FLT) (CL : List (String × Nat × Nat)) : Prop := (∀ t ∈ FL, FLok t) ∧ (∀ t ∈ ML, MLokC CT t) ∧ (∀ t ∈ CL, CLok t) ∧ (∀ md ∈ CT, okN CT FL ML CL md = true) ∧ ∀ md ∈ CT, pcA md.2.2.2.2.2 0 = 0
