
/-! ===== the abstract machine: cells by kind and number, instructions as rows, a run by fuel and depth ===== -/
abbrev AV : Type := Value ⊕ (Nat × Nat)
abbrev AH : Type := (Nat → Nat → Nat → Int32) × (Nat → Nat → Nat → Int64)
abbrev FE : Type := Nat ⊕ (Nat × Nat × Nat)
abbrev KE : Type := (Nat × Nat × Nat) ⊕ (Nat × List FE)
/-- a row: pc, length, op, instruction, a, b, c, e, an int, a long, a switch's pairs, locals that are dead -/
abbrev IE : Type := Nat × Nat × Nat × Instr × Nat × Nat × Nat × Nat × Int32 × Int64 × List (Int32 × Nat) × List Nat
abbrev MD : Type := String × MethodName × ByteArray × Nat × Option FieldType × List IE
def KD : List (Nat × KE) := [(1, .inr (11, [.inr (1, 1, 0), .inr (4, 1, 0), .inr (7, 1, 0), .inr (11, 1, 0), .inr (12, 1, 0), .inr (8, 1, 3), .inr (18, 1, 0), .inr (19, 1, 0), .inr (24, 1, 0), .inr (26, 1, 0), .inr (28, 1, 0), .inr (29, 1, 0), .inr (33, 1, 0), .inl 0, .inl 0, .inl 1, .inl 1])), (1, .inl (4, 6, 2)), (6, .inr (5, [.inr (3, 0, 0), .inl 0])), (6, .inl (0, 40, 0)), (1, .inl (5, 4, 5)), (4, .inr (9, [.inr (6, 0, 0), .inl 0])), (4, .inl (1, 80, 0)), (1, .inl (6, 3, 8)), (4, .inr (7, [.inr (9, 0, 0), .inr (10, 0, 0), .inl 0, .inl 0, .inl 0, .inl 0, .inl 2])), (4, .inl (0, 14, 0)), (4, .inl (0, 40, 0)), (1, .inr (4, [.inr (12, 1, 1), .inl 0])), (2, .inr (6, [.inr (13, 0, 0), .inr (14, 0, 0), .inr (15, 0, 0), .inr (16, 0, 0), .inr (17, 0, 0), .inl 0, .inl 0])), (2, .inl (0, 10, 0)), (2, .inl (0, 6, 0)), (2, .inl (0, 14, 0)), (2, .inl (0, 14, 0)), (2, .inl (0, 14, 0)), (1, .inr (0, [.inr (12, 1, 0), .inr (8, 1, 3)])), (1, .inr (10, [.inr (20, 1, 0), .inr (12, 1, 0), .inr (8, 1, 3), .inr (18, 1, 0), .inr (21, 1, 0), .inr (22, 1, 0), .inr (23, 1, 0), .inl 0])), (1, .inl (0, 10, 0)), (1, .inl (0, 10, 0)), (1, .inl (0, 10, 0)), (1, .inl (0, 10, 0)), (1, .inr (1, [.inr (12, 1, 0), .inr (18, 1, 0), .inr (25, 1, 0)])), (1, .inl (0, 10, 0)), (1, .inr (3, [.inr (12, 1, 0), .inr (8, 1, 3), .inr (18, 1, 0), .inr (27, 1, 0)])), (1, .inl (0, 32, 0)), (1, .inr (8, [.inr (12, 1, 0), .inr (8, 1, 3), .inr (18, 1, 0), .inl 0, .inl 0])), (1, .inr (2, [.inr (12, 1, 0), .inr (8, 1, 3), .inr (18, 1, 0), .inr (30, 1, 0), .inr (31, 1, 0), .inr (32, 1, 0)])), (1, .inl (3, 10, 0)), (1, .inl (3, 10, 0)), (1, .inl (0, 100, 0)), (1, .inl (0, 6, 0)), (1, .inr (12, [.inl 0, .inr (35, 1, 0), .inl 0, .inl 1, .inl 1, .inr (36, 1, 0), .inr (37, 1, 0), .inr (38, 1, 0), .inr (39, 1, 0), .inr (40, 1, 0), .inl 0, .inl 0, .inr (41, 1, 0), .inr (42, 1, 0), .inr (43, 1, 0), .inr (44, 1, 0), .inl 0, .inl 0, .inl 0, .inl 0, .inl 0, .inl 0, .inl 0, .inr (45, 1, 0), .inr (46, 1, 0), .inr (47, 1, 0), .inr (48, 1, 0), .inl 0, .inr (49, 1, 0), .inr (50, 1, 0), .inr (51, 1, 0), .inr (52, 1, 0), .inr (53, 1, 0), .inr (54, 1, 0), .inr (55, 1, 0), .inr (56, 1, 0), .inr (57, 1, 0), .inr (58, 1, 0), .inl 0, .inl 1])), (1, .inl (0, 6, 0)), (1, .inl (0, 6, 0)), (1, .inl (0, 240, 0)), (1, .inl (0, 40, 0)), (1, .inl (0, 4, 0)), (1, .inl (1, 320, 0)), (1, .inl (0, 10, 0)), (1, .inl (0, 14, 0)), (1, .inl (0, 14, 0)), (1, .inl (0, 14, 0)), (1, .inl (0, 10, 0)), (1, .inl (0, 14, 0)), (1, .inl (0, 14, 0)), (1, .inl (0, 14, 0)), (1, .inl (0, 41, 0)), (1, .inl (2, 3, 0)), (1, .inl (0, 3, 0)), (1, .inl (0, 123, 0)), (1, .inl (0, 9, 0)), (1, .inl (0, 42, 0)), (1, .inl (0, 10, 0)), (1, .inl (0, 10, 0)), (1, .inl (0, 32, 0)), (1, .inl (0, 10, 0))]
def kdg : List (Nat × KE) → Nat → KE
  | [], _ => .inl (9, 0, 0)
  | x :: _, 0 => x.2
  | _ :: r, n + 1 => kdg r n
abbrev kd (k : Nat) : KE := kdg KD k
def hsI (h : AH) (k i j : Nat) (v : Int32) : AH := (fun a b c => if a = k ∧ b = i ∧ c = j then v else h.1 a b c, h.2)
def hsL (h : AH) (k i j : Nat) (v : Int64) : AH := (h.1, fun a b c => if a = k ∧ b = i ∧ c = j then v else h.2 a b c)
def hcp (h : AH) (k0 i0 k1 i1 sp dp n : Nat) : AH := (fun a b c => if a = k1 ∧ b = i1 ∧ dp ≤ c ∧ c < dp + n then h.1 k0 i0 (sp + (c - dp)) else h.1 a b c, h.2)
def hcpL (h : AH) (k0 i0 k1 i1 sp dp n : Nat) : AH := (h.1, fun a b c => if a = k1 ∧ b = i1 ∧ dp ≤ c ∧ c < dp + n then h.2 k0 i0 (sp + (c - dp)) else h.2 a b c)
def inb (j : Int32) (n : Nat) : Bool := !(decide (j < 0)) && decide (j.toNatClampNeg < n)
def zn (x : Int32) : Int32 := x &&& 1
abbrev av0 : AV := .inl .null
def nth : List AV → Nat → AV
  | [], _ => av0
  | x :: _, 0 => x
  | _ :: r, n + 1 => nth r n
def fnth : List FE → Nat → FE
  | [], _ => .inl 9
  | x :: _, 0 => x
  | _ :: r, n + 1 => fnth r n
def kil (v : AV) : AV := match v with
  | .inl (.long _) => av0
  | x => x
/-- a store of one word: a long just before it dies -/
def st1 : List AV → Nat → AV → List AV
  | [], _, _ => []
  | _ :: r, 0, v => v :: r
  | a :: r, 1, v => kil a :: st1 r 0 v
  | a :: r, n + 2, v => a :: st1 r (n + 1) v
/-- a store of two words -/
def st2 : List AV → Nat → AV → List AV
  | [], _, _ => []
  | _ :: r, 0, v => v :: st1 r 0 av0
  | a :: r, 1, v => kil a :: st2 r 0 v
  | a :: r, n + 2, v => a :: st2 r (n + 1) v
def clr : List Nat → List AV → List AV
  | [], L => L
  | k :: ks, L => clr ks (L.set k av0)
def swt (x : Int32) (d : Nat) : List (Int32 × Nat) → Nat
  | [] => d
  | q :: r => if x = q.1 then q.2 else swt x d r
def ie0 : IE := (0, 0, 99, .nop, 0, 0, 0, 0, 0, 0, [], [])
def cget : List IE → Nat → IE
  | [], _ => ie0
  | x :: _, 0 => x
  | _ :: r, n + 1 => cget r n
abbrev pcA (C : List IE) (ix : Nat) : Nat := (cget C ix).1
abbrev Cf : Type := Nat × List AV × List AV × AH
def ibin (a : Nat) (x y : Int32) : Int32 := match a with
  | 0 => x + y
  | 1 => x - y
  | 2 => x * y
  | 3 => x &&& y
  | 4 => x ||| y
  | 5 => x ^^^ y
  | 6 => x <<< (y &&& 31)
  | 7 => x >>> (y &&& 31)
  | _ => (x.toUInt32 >>> (y.toUInt32 &&& Int32.toUInt32 31)).toInt32
def lbin (a : Nat) (x y : Int64) : Int64 := match a with
  | 0 => x + y
  | 1 => x - y
  | _ => x * y
def stepI (op a b c e : Nat) (v : Int32) (w : Int64) (ts : List (Int32 × Nat)) (ix : Nat) (L st : List AV) (h : AH) : Option Cf := match op with
  | 0 => some (ix + 1, L, .inl (.int v) :: st, h)
  | 1 => some (ix + 1, L, .inl (.long w) :: st, h)
  | 2 => match nth L a with
    | .inl (.int x) => some (ix + 1, L, .inl (.int x) :: st, h)
    | _ => none
  | 3 => match nth L a with
    | .inl (.long x) => some (ix + 1, L, .inl (.long x) :: st, h)
    | _ => none
  | 4 => match nth L a with
    | .inr r => some (ix + 1, L, .inr r :: st, h)
    | _ => none
  | 5 => match st with
    | .inl (.int x) :: r => some (ix + 1, st1 L a (.inl (.int x)), r, h)
    | _ => none
  | 6 => match st with
    | .inl (.long x) :: r => some (ix + 1, st2 L a (.inl (.long x)), r, h)
    | _ => none
  | 7 => match st with
    | .inr x :: r => some (ix + 1, st1 L a (.inr x), r, h)
    | _ => none
  | 8 => match nth L a with
    | .inl (.int x) => some (ix + 1, st1 L a (.inl (.int (x + v))), st, h)
    | _ => none
  | 9 => match st with
    | .inl (.int y) :: .inl (.int x) :: r => some (ix + 1, L, .inl (.int (ibin a x y)) :: r, h)
    | _ => none
  | 10 => match st with
    | .inl (.int y) :: .inl (.int x) :: r => if y = 0 then none else some (ix + 1, L, .inl (.int (x / y)) :: r, h)
    | _ => none
  | 11 => match st with
    | .inl (.int y) :: .inl (.int x) :: r => if y = 0 then none else some (ix + 1, L, .inl (.int (x - x / y * y)) :: r, h)
    | _ => none
  | 12 => match st with
    | .inl (.long y) :: .inl (.long x) :: r => some (ix + 1, L, .inl (.long (lbin a x y)) :: r, h)
    | _ => none
  | 13 => match st with
    | .inl (.long y) :: .inl (.long x) :: r => if y = 0 then none else some (ix + 1, L, .inl (.long (x / y)) :: r, h)
    | _ => none
  | 14 => match st with
    | .inl (.long y) :: .inl (.long x) :: r => if y = 0 then none else some (ix + 1, L, .inl (.long (x - x / y * y)) :: r, h)
    | _ => none
  | 15 => match st with
    | .inl (.int x) :: r => some (ix + 1, L, .inl (.long x.toInt64) :: r, h)
    | _ => none
  | 16 => match st with
    | .inl (.long x) :: r => some (ix + 1, L, .inl (.int x.toInt32) :: r, h)
    | _ => none
  | 17 => match st with
    | .inl (.int x) :: r => some (ix + 1, L, .inl (.int x.toInt8.toInt32) :: r, h)
    | _ => none
  | 18 => match st with
    | .inl (.long y) :: .inl (.long x) :: r => some (ix + 1, L, .inl (.int (lg_cmp x y)) :: r, h)
    | _ => none
  | 19 => match st with
    | .inl (.int y) :: .inl (.int x) :: r => match a with
      | 0 => some (if x = y then b else ix + 1, L, r, h)
      | 1 => some (if x = y then ix + 1 else b, L, r, h)
      | 2 => some (if x < y then b else ix + 1, L, r, h)
      | 3 => some (if y ≤ x then b else ix + 1, L, r, h)
      | 4 => some (if y < x then b else ix + 1, L, r, h)
      | _ => some (if x ≤ y then b else ix + 1, L, r, h)
    | _ => none
  | 20 => match st with
    | .inl (.int x) :: r => match a with
      | 0 => some (if x = 0 then b else ix + 1, L, r, h)
      | 1 => some (if x = 0 then ix + 1 else b, L, r, h)
      | 2 => some (if x < 0 then b else ix + 1, L, r, h)
      | 3 => some (if 0 ≤ x then b else ix + 1, L, r, h)
      | 4 => some (if 0 < x then b else ix + 1, L, r, h)
      | _ => some (if x ≤ 0 then b else ix + 1, L, r, h)
    | _ => none
  | 21 => some (b, L, st, h)
  | 22 => match st with
    | .inr (k, i) :: r => match kd k with
      | .inr (ci, fs) => match Nat.beq ci a with
        | true => match fnth fs b with
          | .inl 1 => some (ix + 1, L, .inl (.long (h.2 k i b)) :: r, h)
          | .inl 0 => some (ix + 1, L, .inl (.int (h.1 k i b)) :: r, h)
          | .inl 2 => some (ix + 1, L, .inl (.int (h.1 k i b)) :: r, h)
          | .inr (k2, 0, _) => some (ix + 1, L, .inr (k2, i) :: r, h)
          | .inr (k2, 1, i2) => some (ix + 1, L, .inr (k2, i2) :: r, h)
          | _ => none
        | false => none
      | _ => none
    | _ => none
  | 23 => match st with
    | .inl (.int x) :: .inr (k, i) :: r => match kd k with
      | .inr (ci, fs) => match Nat.beq ci a with
        | true => match fnth fs b with
          | .inl 0 => some (ix + 1, L, r, hsI h k i b x)
          | .inl 2 => if x = 0 ∨ x = 1 then some (ix + 1, L, r, hsI h k i b x) else none
          | _ => none
        | false => none
      | _ => none
    | .inl (.long x) :: .inr (k, i) :: r => match kd k with
      | .inr (ci, fs) => match Nat.beq ci a with
        | true => match fnth fs b with
          | .inl 1 => some (ix + 1, L, r, hsL h k i b x)
          | _ => none
        | false => none
      | _ => none
    | _ => none
  | 24 => match st with
    | .inl (.int j) :: .inr (k, i) :: r => match kd k with
      | .inl (0, n, _) => if inb j n = true then some (ix + 1, L, .inl (.int (h.1 k i j.toNatClampNeg)) :: r, h) else none
      | _ => none
    | _ => none
  | 25 => match st with
    | .inl (.int j) :: .inr (k, i) :: r => match kd k with
      | .inl (1, n, _) => if inb j n = true then some (ix + 1, L, .inl (.int (h.1 k i j.toNatClampNeg)) :: r, h) else none
      | .inl (2, n, _) => if inb j n = true then some (ix + 1, L, .inl (.int (h.1 k i j.toNatClampNeg)) :: r, h) else none
      | _ => none
    | _ => none
  | 26 => match st with
    | .inl (.int j) :: .inr (k, i) :: r => match kd k with
      | .inl (3, n, _) => if inb j n = true then some (ix + 1, L, .inl (.long (h.2 k i j.toNatClampNeg)) :: r, h) else none
      | _ => none
    | _ => none
  | 27 => match st with
    | .inl (.int j) :: .inr (k, i) :: r => match kd k with
      | .inl (4, n, k2) => if inb j n = true then some (ix + 1, L, .inr (k2, j.toNatClampNeg) :: r, h) else none
      | .inl (5, n, k2) => if inb j n = true then some (ix + 1, L, .inr (k2, j.toNatClampNeg) :: r, h) else none
      | .inl (6, n, k2) => if inb j n = true then some (ix + 1, L, .inr (k2, j.toNatClampNeg) :: r, h) else none
      | _ => none
    | _ => none
  | 28 => match st with
    | .inl (.int x) :: .inl (.int j) :: .inr (k, i) :: r => match kd k with
      | .inl (0, n, _) => if inb j n = true then some (ix + 1, L, r, hsI h k i j.toNatClampNeg x) else none
      | _ => none
    | _ => none
  | 29 => match st with
    | .inl (.int x) :: .inl (.int j) :: .inr (k, i) :: r => match kd k with
      | .inl (1, n, _) => if inb j n = true then some (ix + 1, L, r, hsI h k i j.toNatClampNeg x.toInt8.toInt32) else none
      | .inl (2, n, _) => if inb j n = true then some (ix + 1, L, r, hsI h k i j.toNatClampNeg (zn x)) else none
      | _ => none
    | _ => none
  | 30 => match st with
    | .inl (.long x) :: .inl (.int j) :: .inr (k, i) :: r => match kd k with
      | .inl (3, n, _) => if inb j n = true then some (ix + 1, L, r, hsL h k i j.toNatClampNeg x) else none
      | _ => none
    | _ => none
  | 31 => match st with
    | .inr (k, _) :: r => match kd k with
      | .inl (0, n, _) => some (ix + 1, L, .inl (.int (nI n)) :: r, h)
      | .inl (1, n, _) => some (ix + 1, L, .inl (.int (nI n)) :: r, h)
      | _ => none
    | _ => none
  | 32 => match st with
    | .inl (.int x) :: r => some (ix + 1, L, .inl (.int x) :: .inl (.int x) :: r, h)
    | .inr x :: r => some (ix + 1, L, .inr x :: .inr x :: r, h)
    | _ => none
  | 33 => match st with
    | .inl (.int x) :: .inr y :: r => some (ix + 1, L, .inl (.int x) :: .inr y :: .inl (.int x) :: .inr y :: r, h)
    | _ => none
  | 34 => match st with
    | .inl (.int _) :: r => some (ix + 1, L, r, h)
    | _ => none
  | 35 => match st with
    | .inl (.int x) :: r => some (swt x b ts, L, r, h)
    | _ => none
  | 36 => match st with
    | [.inl (.int n), .inl (.int dp), .inr (k1, i1), .inl (.int sp), .inr (k0, i0)] => match kd k0, kd k1 with
      | .inl (0, n0, _), .inl (0, n1, _) => if (¬ sp < 0 ∧ ¬ dp < 0 ∧ ¬ n < 0) ∧ sp.toNatClampNeg + n.toNatClampNeg ≤ n0 ∧ dp.toNatClampNeg + n.toNatClampNeg ≤ n1 then some (ix + 1, L, [], hcp h k0 i0 k1 i1 sp.toNatClampNeg dp.toNatClampNeg n.toNatClampNeg) else none
      | .inl (3, n0, _), .inl (3, n1, _) => if (¬ sp < 0 ∧ ¬ dp < 0 ∧ ¬ n < 0) ∧ sp.toNatClampNeg + n.toNatClampNeg ≤ n0 ∧ dp.toNatClampNeg + n.toNatClampNeg ≤ n1 then some (ix + 1, L, [], hcpL h k0 i0 k1 i1 sp.toNatClampNeg dp.toNatClampNeg n.toNatClampNeg) else none
      | _, _ => none
    | _ => none
  | _ => none
def step (C : List IE) (x : Cf) : Option Cf := match cget C x.1 with
  | (_, _, op, _, a, b, c, e, v, w, ts, ks) => stepI op a b c e v w ts x.1 (clr ks x.2.1) x.2.2.1 x.2.2.2
def steps (C : List IE) : Nat → Cf → Option Cf
  | 0, x => some x
  | 1, x => step C x
  | n + 2, x => match step C x with
    | some y => steps C (n + 1) y
    | none => none
/-- a callee's locals: a long takes two -/
def lay1 : List AV → List AV
  | [] => []
  | .inl (.long x) :: r => .inl (.long x) :: av0 :: lay1 r
  | x :: r => x :: lay1 r
def mkL (n : Nat) (args : List AV) : List AV := lay1 args ++ List.replicate (n - (lay1 args).length) av0
def pop : Nat → List AV → List AV → Option (List AV × List AV)
  | 0, acc, st => some (acc, st)
  | n + 1, acc, x :: st => pop n (x :: acc) st
  | _ + 1, _, [] => none
abbrev Rs : Type := Option Value × AH
def rst (r : Option Value) (st : List AV) : List AV := match r with
  | some v => .inl v :: st
  | none => st

def wsm : List AV → Nat
  | [] => 0
  | .inl (.long _) :: r => wsm r + 2
  | .inl (.double _) :: r => wsm r + 2
  | _ :: r => wsm r + 1
def isCl (ci : Nat) (args : List AV) : Bool := match args with
  | .inr (k, _) :: _ => match kd k with
    | .inr (cj, _) => Nat.beq cj ci
    | _ => false
  | _ => false
def tsC (ts : List (Int32 × Nat)) : Nat := match ts with
  | t :: _ => t.2
  | [] => 99
/-- a run: fuel, depth; op 40: a static call, op 41: a call on an object (its class' number in ts); 50 to 53: the ends -/
def run (P : Nat → List IE) : Nat → Nat → List IE → Cf → Option Rs
  | 0, _, _, _ => none
  | n + 1, d, C, x => match cget C x.1 with
    | (_, _, op, _, a, b, c, _, _, _, ts, ks) => match op with
      | 40 => match d with
        | 0 => none
        | d' + 1 => match pop b [] x.2.2.1 with
          | some (args, rest) => match Nat.ble (wsm rest) 8 && Nat.ble (lay1 args).length c with
            | true => match run P n d' (P a) (0, mkL c args, [], x.2.2.2) with
              | some (r, h') => run P n (d' + 1) C (x.1 + 1, clr ks x.2.1, rst r rest, h')
              | none => none
            | false => none
          | none => none
      | 41 => match d with
        | 0 => none
        | d' + 1 => match pop b [] x.2.2.1 with
          | some (args, rest) => match Nat.ble (wsm rest) 8 && Nat.ble (lay1 args).length c && isCl (tsC ts) args with
            | true => match run P n d' (P a) (0, mkL c args, [], x.2.2.2) with
              | some (r, h') => run P n (d' + 1) C (x.1 + 1, clr ks x.2.1, rst r rest, h')
              | none => none
            | false => none
          | none => none
      | 50 => match x.2.2.1 with
        | [.inl (.int y)] => some (some (.int y), x.2.2.2)
        | _ => none
      | 51 => match x.2.2.1 with
        | [.inl (.int y)] => some (some (.int (zn y)), x.2.2.2)
        | _ => none
      | 52 => match x.2.2.1 with
        | [.inl (.long y)] => some (some (.long y), x.2.2.2)
        | _ => none
      | 53 => match x.2.2.1 with
        | [] => some (none, x.2.2.2)
        | _ => none
      | _ => match step C x with
        | some y => run P n d C y
        | none => none
/-! what a program's rows must be -/
abbrev FLT : Type := List (String × Nat × Nat × Nat)
abbrev CIT : Type := List (String × Nat × Int32)
abbrev CJT : Type := List (String × Nat × Int64)
def insB (a : Nat) : Instr := match a with
  | 0 => .iadd
  | 1 => .isub
  | 2 => .imul
  | 3 => .iand
  | 4 => .ior
  | 5 => .ixor
  | 6 => .ishl
  | 7 => .ishr
  | _ => .iushr
def insL (a : Nat) : Instr := match a with
  | 0 => .ladd
  | 1 => .lsub
  | _ => .lmul
def cndB (a : Nat) : ClassFile.Cond := match a with
  | 0 => .eq
  | 1 => .ne
  | 2 => .lt
  | 3 => .ge
  | 4 => .gt
  | _ => .le
def swOk (C : List IE) (pc : Nat) (ins : Instr) (b : Nat) (ts : List (Int32 × Nat)) : Bool := match ins with
  | .lookupswitch dflt ps => decide ((pc : Int) + dflt = (pcA C b : Nat)) && (ps.toList.zip (ps.toList.drop 1)).all (fun (x, y) => x.1 < y.1) && decide (ts.map (fun t => (t.1.toInt, ((pcA C t.2 : Nat) : Int))) = ps.toList.map (fun t => (t.1, (pc : Int) + t.2)))
  | .tableswitch dflt lo hi offs => decide ((pc : Int) + dflt = (pcA C b : Nat)) && decide (ts.map (fun t => (t.1.toInt, ((pcA C t.2 : Nat) : Int))) = (List.range offs.size).map (fun (j : Nat) => (lo + Int.ofNat j, (pc : Int) + offs.getD j 0))) && decide (hi = lo + (offs.size : Int) - 1)
  | _ => false
def okO (MT : List MD) (FL ML : FLT) (CI : CIT) (CJ : CJT) (own : String) (C : List IE) (ix : Nat) (X : IE) : Bool := match X with
  | (pc, ln, op, ins, a, b, c, e, v, w, ts, _) => match op with
    | 0 => match ins with
      | .iconst n => decide (ln = 1 ∧ Int32.ofInt n = v)
      | .bipush n => decide (ln = 2 ∧ (Int8.ofInt n).toInt32 = v)
      | .sipush n => decide (ln = 3 ∧ (Int16.ofInt n).toInt32 = v)
      | .ldc i => decide (ln = 2) && decide (CI[e]? = some (own, i, v))
      | .ldc_w i => decide (ln = 3) && decide (CI[e]? = some (own, i, v))
      | _ => false
    | 1 => match ins with
      | .lconst n => decide (ln = 1 ∧ Int64.ofNat (n : Nat) = w)
      | .ldc2_w i => decide (ln = 3) && decide (CJ[e]? = some (own, i, w))
      | _ => false
    | 2 => match ins with
      | .iload_n n => decide (ln = 1 ∧ (n : Nat) = a)
      | .iload n => decide (ln = 2 ∧ n = a)
      | _ => false
    | 3 => match ins with
      | .lload_n n => decide (ln = 1 ∧ (n : Nat) = a)
      | .lload n => decide (ln = 2 ∧ n = a)
      | _ => false
    | 4 => match ins with
      | .aload_n n => decide (ln = 1 ∧ (n : Nat) = a)
      | .aload n => decide (ln = 2 ∧ n = a)
      | _ => false
    | 5 => match ins with
      | .istore_n n => decide (ln = 1 ∧ (n : Nat) = a)
      | .istore n => decide (ln = 2 ∧ n = a)
      | _ => false
    | 6 => match ins with
      | .lstore_n n => decide (ln = 1 ∧ (n : Nat) = a)
      | .lstore n => decide (ln = 2 ∧ n = a)
      | _ => false
    | 7 => match ins with
      | .astore_n n => decide (ln = 1 ∧ (n : Nat) = a)
      | .astore n => decide (ln = 2 ∧ n = a)
      | _ => false
    | 8 => match ins with
      | .iinc n z => decide (ln = 3 ∧ n = a ∧ Int32.ofInt z = v)
      | _ => false
    | 9 => decide (ln = 1 ∧ ins = insB a)
    | 10 => decide (ln = 1 ∧ ins = .idiv)
    | 11 => decide (ln = 1 ∧ ins = .irem)
    | 12 => decide (ln = 1 ∧ ins = insL a)
    | 13 => decide (ln = 1 ∧ ins = .ldiv)
    | 14 => decide (ln = 1 ∧ ins = .lrem)
    | 15 => decide (ln = 1 ∧ ins = .i2l)
    | 16 => decide (ln = 1 ∧ ins = .l2i)
    | 17 => decide (ln = 1 ∧ ins = .i2b)
    | 18 => decide (ln = 1 ∧ ins = .lcmp)
    | 19 => match ins with
      | .if_icmp cn off => decide (ln = 3 ∧ cn = cndB a ∧ (pc : Int) + off = (pcA C b : Nat))
      | _ => false
    | 20 => match ins with
      | .ifCond cn off => decide (ln = 3 ∧ cn = cndB a ∧ (pc : Int) + off = (pcA C b : Nat))
      | _ => false
    | 21 => match ins with
      | .goto off => decide (ln = 3 ∧ (pc : Int) + off = (pcA C b : Nat))
      | _ => false
    | 22 => match ins with
      | .getfield i => decide (ln = 3) && decide (FL[e]? = some (own, i, a, b))
      | _ => false
    | 23 => match ins with
      | .putfield i => decide (ln = 3) && decide (FL[e]? = some (own, i, a, b)) && (match vwCl[a]? with
        | some (_, T, _) => !((T b).2.2.2)
        | none => false)
      | _ => false
    | 24 => decide (ln = 1 ∧ ins = .iaload)
    | 25 => decide (ln = 1 ∧ ins = .baload)
    | 26 => decide (ln = 1 ∧ ins = .laload)
    | 27 => decide (ln = 1 ∧ ins = .aaload)
    | 28 => decide (ln = 1 ∧ ins = .iastore)
    | 29 => decide (ln = 1 ∧ ins = .bastore)
    | 30 => decide (ln = 1 ∧ ins = .lastore)
    | 31 => decide (ln = 1 ∧ ins = .arraylength)
    | 32 => decide (ln = 1 ∧ ins = .dup)
    | 33 => decide (ln = 1 ∧ ins = .dup2)
    | 34 => decide (ln = 1 ∧ ins = .pop)
    | 35 => swOk C pc ins b ts
    | 36 => match ins with
      | .invokestatic i => decide (ln = 3) && decide (ML[e]? = some (own, i, 9, 0))
      | _ => false
    | 40 => match ins with
      | .invokestatic i => decide (ln = 3) && (decide (ML[e]? = some (own, i, 1, a)) || decide (ML[e]? = some (own, i, 2, a))) && (match MT[a]? with
        | some md => decide (md.2.2.2.1 = c) && decide ((parseMethodDescriptor md.2.1.desc).map (fun d => d.parameters.length) = some b)
        | none => false)
      | _ => false
    | 41 => match ins with
      | .invokevirtual i => decide (ln = 3) && decide (ML[e]? = some (own, i, 0, a)) && (match MT[a]? with
        | some md => decide (md.2.2.2.1 = c) && decide ((parseMethodDescriptor md.2.1.desc).map (fun d => d.parameters.length + 1) = some b) && (match ts with
          | t :: _ => decide ((vwCl[t.2]?).map (fun r => r.1) = some md.2.1.cls)
          | [] => false)
        | none => false)
      | _ => false
    | 50 => decide (ln = 1 ∧ ins = .ireturn)
    | 51 => decide (ln = 1 ∧ ins = .ireturn)
    | 52 => decide (ln = 1 ∧ ins = .lreturn)
    | 53 => decide (ln = 1 ∧ ins = .return_)
    | _ => false
/-- is the next row just behind -/
def nxO (C : List IE) (ix : Nat) (X : IE) : Bool := match X with
  | (pc, ln, op, _) => decide (op = 21) || decide (50 ≤ op) || decide (op = 35) || decide (pcA C (ix + 1) = pc + ln)
def rtO (ret : Option FieldType) (X : IE) : Bool := match X with
  | (_, _, op, _) => match op with
    | 50 => decide (ret = some .int)
    | 51 => decide (ret = some .boolean)
    | 52 => decide (ret = some .long)
    | 53 => decide (ret = none)
    | _ => true
def lcO (nL : Nat) (X : IE) : Bool := match X with
  | (_, _, op, _, a, _) => match op with
    | 5 => decide (a < nL)
    | 6 => decide (a + 1 < nL)
    | 7 => decide (a < nL)
    | 8 => decide (a < nL)
    | _ => true
def okM (MT : List MD) (FL ML : FLT) (CI : CIT) (CJ : CJT) (md : MD) : Bool := match md with
  | (own, _, bytes, nL, ret, C) => (List.range C.length).all (fun ix => decide (decode bytes (pcA C ix) = .ok ((cget C ix).2.2.2.1, (cget C ix).2.1)) && okO MT FL ML CI CJ own C ix (cget C ix) && nxO C ix (cget C ix) && rtO ret (cget C ix) && lcO nL (cget C ix))
