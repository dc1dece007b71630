/-! THE PURE MACHINE: a heap is a list of shapes (tag, number, references) and a function of numbers; tag 0: an object of a class, 1: int[], 2: boolean[], 3: an array of objects -/
abbrev xS : Type := Nat × Nat × List (Option Nat)
abbrev xV : Type := Nat → Nat → Int32
abbrev xH : Type := List xS × xV
/-- pc, operation, next pc, three numbers, a value -/
abbrev xE : Type := Nat × Nat × Nat × Nat × Nat × Nat × Int32
abbrev xC : Type := Nat × List Value × List Value × xH
abbrev xR : Type := xC ⊕ (Option Int32 ⊕ (Nat × List Value × Nat × List Value × List Value))
def x_at : List xE → Nat → Option xE
  | [], _ => none
  | q :: r, pc => if q.1 = pc then some q else x_at r pc
def x_up (V : xV) (a k : Nat) (x : Int32) : xV := fun b => if b = a then upd (V b) k x else V b
def x_bin (b : Nat) (x y : Int32) : Option Int32 := match b with
  | 0 => some (x + y)
  | 1 => some (x - y)
  | 2 => some (x * y)
  | 3 => some (x &&& y)
  | 4 => some (x ||| y)
  | 5 => some (x ^^^ y)
  | 6 => some (x <<< (y &&& 31))
  | 7 => some (x >>> (y &&& 31))
  | 8 => some ((x.toUInt32 >>> (y.toUInt32 &&& Int32.toUInt32 31)).toInt32)
  | 9 => if y = 0 then none else some (x / y)
  | 10 => if y = 0 then none else some (x - x / y * y)
  | 11 => some (if x < y then y else x)
  | 12 => some (if y < x then y else x)
  | _ => none
def x_cmp (b : Nat) (x y : Int32) : Bool := match b with
  | 0 => decide (x = y)
  | 1 => decide (¬ x = y)
  | 2 => decide (x < y)
  | 3 => decide (y ≤ x)
  | 4 => decide (y < x)
  | _ => decide (x ≤ y)
def x_in (i : Int32) (n : Nat) : Bool := decide (¬ (i < 0 ∨ n ≤ i.toNatClampNeg))
def x_rv (n : Nat) (v : Value) : Bool := match v with
  | .ref x => decide (x < n)
  | _ => true
def x_ro (n : Nat) (o : Option Nat) : Bool := match o with
  | some q => decide (q < n)
  | none => true
def x_rok (n : Nat) (ls st : List Value) (S : List xS) : Bool := ls.all (x_rv n) && st.all (x_rv n) && S.all (fun q => q.2.2.all (x_ro n))
def x_sw : List (Int32 × Nat) → Int32 → Nat → Nat
  | [], _, d => d
  | q :: r, x, d => if q.1 = x then q.2 else x_sw r x d
def x_push (S : List xS) (V : xV) (q : xS) : xH := (S ++ [q], fun b => if b = S.length then fun _ => 0 else V b)
def x_new (nf : List Nat) (sws : List (List (Int32 × Nat))) (op nx a b c : Nat) (ls st : List Value) (h : xH) : Option xR := match op with
  | 29 => if x_rok h.1.length ls st h.1 then some (.inl (nx, ls, .ref h.1.length :: st, x_push h.1 h.2 (0, a, List.replicate (nf.getD a 0) none))) else none
  | 30 => match st with
    | .int n :: st => if x_rok h.1.length ls st h.1 ∧ ¬ n < 0 ∧ n.toNatClampNeg ≤ 1000 ∧ (b = 1 ∨ b = 2) then some (.inl (nx, ls, .ref h.1.length :: st, x_push h.1 h.2 (b, n.toNatClampNeg, []))) else none
    | _ => none
  | 31 => match st with
    | .int n :: st => if x_rok h.1.length ls st h.1 ∧ ¬ n < 0 ∧ n.toNatClampNeg ≤ 1000 then some (.inl (nx, ls, .ref h.1.length :: st, x_push h.1 h.2 (3, n.toNatClampNeg, List.replicate n.toNatClampNeg none))) else none
    | _ => none
  | 32 => match st with
    | .ref _ :: st => if st.length ≤ 4 then some (.inl (nx, ls, st, h)) else none
    | _ => none
  | 33 => match st with
    | .int n :: .int dp :: .ref y :: .int sp :: .ref x :: st => match h.1[x]?, h.1[y]? with
      | some (1, n0, _), some (1, n1, _) => if ¬ sp < 0 ∧ ¬ dp < 0 ∧ ¬ n < 0 ∧ sp.toNatClampNeg + n.toNatClampNeg ≤ n0 ∧ dp.toNatClampNeg + n.toNatClampNeg ≤ n1 ∧ st.length ≤ 4 then
          some (.inl (nx, ls, st, (h.1, fun q => if q = y then va_cpy (h.2 x) (h.2 y) sp.toNatClampNeg dp.toNatClampNeg n.toNatClampNeg else h.2 q))) else none
      | _, _ => none
    | _ => none
  | 34 => match st with
    | .int x :: st => some (.inl (x_sw (sws.getD c []) x a, ls, st, h))
    | _ => none
  | _ => none
def x_mem (nf : List Nat) (sws : List (List (Int32 × Nat))) (op nx a b c : Nat) (ls st : List Value) (h : xH) : Option xR := match op with
  | 13 => match st with
    | .ref x :: st => match h.1[x]? with
      | some (0, ci, _) => if ci = a then some (.inl (nx, ls, .int (h.2 x b) :: st, h)) else none
      | _ => none
    | _ => none
  | 14 => match st with
    | .ref x :: st => match h.1[x]? with
      | some (0, ci, rf) => if ci = a then (match rf[b]? with
        | some (some q) => some (.inl (nx, ls, .ref q :: st, h))
        | _ => none) else none
      | _ => none
    | _ => none
  | 15 => match st with
    | .int y :: .ref x :: st => match h.1[x]? with
      | some (0, ci, _) => if ci = a then some (.inl (nx, ls, st, (h.1, x_up h.2 x b y))) else none
      | _ => none
    | _ => none
  | 16 => match st with
    | .int y :: .ref x :: st => match h.1[x]? with
      | some (0, ci, _) => if ci = a ∧ (y = 0 ∨ y = 1) then some (.inl (nx, ls, st, (h.1, x_up h.2 x b y))) else none
      | _ => none
    | _ => none
  | 17 => match st with
    | .ref y :: .ref x :: st => match h.1[x]? with
      | some (0, ci, rf) => if ci = a ∧ b < rf.length then some (.inl (nx, ls, st, (h.1.set x (0, ci, rf.set b (some y)), h.2))) else none
      | _ => none
    | _ => none
  | 18 => match st with
    | .int i :: .ref x :: st => match h.1[x]? with
      | some (1, n, _) => if x_in i n then some (.inl (nx, ls, .int (h.2 x i.toNatClampNeg) :: st, h)) else none
      | _ => none
    | _ => none
  | 19 => match st with
    | .int y :: .int i :: .ref x :: st => match h.1[x]? with
      | some (1, n, _) => if x_in i n then some (.inl (nx, ls, st, (h.1, x_up h.2 x i.toNatClampNeg y))) else none
      | _ => none
    | _ => none
  | 20 => match st with
    | .int i :: .ref x :: st => match h.1[x]? with
      | some (2, n, _) => if x_in i n then some (.inl (nx, ls, .int (h.2 x i.toNatClampNeg) :: st, h)) else none
      | _ => none
    | _ => none
  | 21 => match st with
    | .int y :: .int i :: .ref x :: st => match h.1[x]? with
      | some (2, n, _) => if x_in i n ∧ (y = 0 ∨ y = 1) then some (.inl (nx, ls, st, (h.1, x_up h.2 x i.toNatClampNeg y))) else none
      | _ => none
    | _ => none
  | 22 => match st with
    | .int i :: .ref x :: st => match h.1[x]? with
      | some (3, n, rf) => if x_in i n then (match rf[i.toNatClampNeg]? with
        | some (some q) => some (.inl (nx, ls, .ref q :: st, h))
        | _ => none) else none
      | _ => none
    | _ => none
  | 23 => match st with
    | .ref y :: .int i :: .ref x :: st => match h.1[x]?, h.1[y]? with
      | some (3, n, rf), some (0, 4, _) => if x_in i n ∧ i.toNatClampNeg < rf.length then some (.inl (nx, ls, st, (h.1.set x (3, n, rf.set i.toNatClampNeg (some y)), h.2))) else none
      | _, _ => none
    | _ => none
  | 24 => match st with
    | .ref x :: st => match h.1[x]? with
      | some (k + 1, n, _) => if k < 2 then some (.inl (nx, ls, .int (Int32.ofNat n) :: st, h)) else none
      | _ => none
    | _ => none
  | 25 => if b ≤ st.length ∧ (st.drop b).length ≤ 4 ∧ (st.take b).all (fun v => v.category == 1) = true then some (.inr (.inr (a, (st.take b).reverse, nx, ls, st.drop b))) else none
  | 26 => if b ≤ st.length ∧ (st.drop b).length ≤ 4 ∧ (st.take b).all (fun v => v.category == 1) = true then (match (st.take b).reverse with
      | .ref x :: as => match h.1[x]? with
        | some (0, ci, _) => if ci = c then some (.inr (.inr (a, .ref x :: as, nx, ls, st.drop b))) else none
        | _ => none
      | _ => none) else none
  | 27 => match st with
    | [.int y] => if b = 0 ∨ y = 0 ∨ y = 1 then some (.inr (.inl (some y))) else none
    | _ => none
  | 28 => match st with
    | [] => some (.inr (.inl none))
    | _ => none
  | op => x_new nf sws op nx a b c ls st h
def x_step (nf : List Nat) (sws : List (List (Int32 × Nat))) (e : xE) (ls st : List Value) (h : xH) : Option xR := match e with
  | (_, op, nx, a, b, c, v) => match op with
    | 0 => some (.inl (nx, ls, .int v :: st, h))
    | 1 => match ls[a]? with
      | some (.int x) => some (.inl (nx, ls, .int x :: st, h))
      | _ => none
    | 2 => match ls[a]? with
      | some (.ref x) => some (.inl (nx, ls, .ref x :: st, h))
      | _ => none
    | 3 => match st with
      | .int x :: st => if a < ls.length then some (.inl (nx, ls.set a (.int x), st, h)) else none
      | _ => none
    | 4 => match st with
      | .ref x :: st => if a < ls.length then some (.inl (nx, ls.set a (.ref x), st, h)) else none
      | _ => none
    | 5 => match ls[a]? with
      | some (.int x) => some (.inl (nx, ls.set a (.int (x + v)), st, h))
      | _ => none
    | 6 => match st with
      | .int y :: .int x :: st => match x_bin b x y with
        | some z => if st.length ≤ 50 then some (.inl (nx, ls, .int z :: st, h)) else none
        | none => none
      | _ => none
    | 7 => match st with
      | .int y :: .int x :: st => some (.inl (if x_cmp b x y then a else nx, ls, st, h))
      | _ => none
    | 8 => match st with
      | .int x :: st => some (.inl (if x_cmp b x 0 then a else nx, ls, st, h))
      | _ => none
    | 9 => some (.inl (a, ls, st, h))
    | 10 => match st with
      | x :: st => if x.category = 1 then some (.inl (nx, ls, x :: x :: st, h)) else none
      | _ => none
    | 11 => match st with
      | x :: y :: st => if x.category = 1 ∧ y.category = 1 then some (.inl (nx, ls, x :: y :: x :: y :: st, h)) else none
      | _ => none
    | 12 => match st with
      | x :: st => if x.category = 1 then some (.inl (nx, ls, st, h)) else none
      | _ => none
    | op => x_mem nf sws op nx a b c ls st h
/-- a call of fuel n, depth d: nf and sws as above, mt: the methods' locals and code -/
def x_ex (nf : List Nat) (sws : List (List (Int32 × Nat))) (mt : List (Nat × List xE)) : Nat → Nat → List xE → Nat → List Value → List Value → xH → Option (Option Int32 × xH)
  | 0, _, _, _, _, _, _ => none
  | n + 1, d, code, pc, ls, st, h => match x_at code pc with
    | none => none
    | some e => match x_step nf sws e ls st h with
      | none => none
      | some (.inl (pc', ls', st', h')) => x_ex nf sws mt n d code pc' ls' st' h'
      | some (.inr (.inl r)) => some (r, h)
      | some (.inr (.inr (i, as, pc', ls', st'))) => match d, mt[i]? with
        | d' + 1, some (nl, code') => match x_ex nf sws mt n d' code' 0 (as ++ List.replicate (nl - as.length) (.long 0)) [] h with
          | none => none
          | some (r, h') => if h'.1.length = h.1.length ∨ x_rok h.1.length ls' st' h.1 then x_ex nf sws mt n (d' + 1) code pc' ls' (r.toList.map .int ++ st') h' else none
        | _, _ => none
