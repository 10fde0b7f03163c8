/-! the mini machine: fields, making, calls, the run. mm_P: old arrays, old objects' fields, constants, statics, new objects' first values, fields' types -/
abbrev mm_P : Type := (Nat → Option (Nat × vp_A)) × (Nat → Nat → Option Value) × (Nat → Option Value) × (Nat → Option Value) × (Nat → Option (List Value)) × (Nat → Nat → Option FieldType)
def mm_rt (a : Nat) : FieldType := match a with
  | 0 => .int
  | 1 => .boolean
  | 2 => .char
  | _ => .byte
/-- what a return instruction gives (outer none: not allowed) -/
def mm_ret (a : Nat) (i : Instr) (S : List Value) : Option (Option Value) := match i with
  | .ireturn => (match S with
    | [.int v] => if a = 0 ∨ narrow (mm_rt a) (.int v) = .int v then some (some (.int v)) else none
    | _ => none)
  | .lreturn => (match S with
    | [.long v] => some (some (.long v))
    | _ => none)
  | .dreturn => (match S with
    | [.double v] => some (some (.double v))
    | _ => none)
  | .areturn => (match S with
    | [.ref v] => some (some (.ref v))
    | [.null] => some (some .null)
    | _ => none)
  | .return_ => (match S with
    | [] => some none
    | _ => none)
  | _ => none
def mm_getf (σ : mm_H) (ci k : Nat) (S : List Value) : Option (List Value) := match S with
  | .ref a :: r => (match σ.1[a]? with
    | some (.inr (c, fs)) => if c = ci then (match fs[k]? with
      | some v => some (v :: r)
      | none => none) else none
    | _ => none)
  | _ => none
/-- a String's field: of a new one (class 11), or of a constant -/
def mm_getO (P : mm_P) (σ : mm_H) (k : Nat) (S : List Value) : Option (List Value) := match S with
  | .ref a :: r => if a < 1000000 then mm_getf σ 11 k (.ref a :: r) else (match P.2.1 a k with
    | some v => some (v :: r)
    | none => none)
  | _ => none
/-- a field of this type may hold this value, as it stands -/
def mm_fit (ty : FieldType) (v : Value) : Bool := match ty, v with
  | .int, .int _ => true
  | .long, .long _ => true
  | .boolean, .int x => x == 0 || x == 1
  | .byte, .int x => x == 0 || x == 1
  | .object _, .ref _ => true
  | .object _, .null => true
  | .array _, .ref _ => true
  | .array _, .null => true
  | _, _ => false
def mm_putf (P : mm_P) (σ : mm_H) (ci k : Nat) (S : List Value) : Option (mm_H × List Value) := match S with
  | v :: .ref a :: r => (match σ.1[a]? with
    | some (.inr (c, fs)) => if c = ci then (match P.2.2.2.2.2 ci k with
      | some ty => if mm_fit ty v = true ∧ k < fs.length then some (mm_set σ a (.inr (c, fs.set k v)), r) else none
      | none => none) else none
    | _ => none)
  | _ => none
/-- one cell more, of n slots -/
def mm_add (σ : mm_H) (x : mm_C) (n : Nat) : mm_H := (σ.1 ++ [x], σ.2.1, σ.2.2.1 + 1, σ.2.2.2 + n)
def mm_new (P : mm_P) (σ : mm_H) (ci : Nat) : Option (mm_H × Value) := if σ.2.1 = true ∧ σ.1.length < 1000000 then (match P.2.2.2.2.1 ci with
  | some fs => some (mm_add σ (.inr (ci, fs)) fs.length, .ref σ.1.length)
  | none => none) else none
def mm_zero (t n : Nat) : Option vp_A := match t with
  | 0 => some (n, .inl (fun _ => 0))
  | 1 => some (n, .inr (.inl (fun _ => 0)))
  | 2 => some (n, .inl (fun _ => 0))
  | 3 => some (n, .inl (fun _ => 0))
  | 4 => some (n, .inr (.inr (.inr (.inl (fun _ => 0)))))
  | 5 => some (n, .inr (.inr (.inr (.inr (fun _ => none)))))
  | _ => none
def mm_newa (σ : mm_H) (t : Nat) (S : List Value) : Option (mm_H × List Value) := match S with
  | .int n :: r => if σ.2.1 = true ∧ σ.1.length < 1000000 ∧ ¬ n < 0 ∧ n.toNatClampNeg < 1000000 then (match mm_zero t n.toNatClampNeg with
    | some x => some (mm_add σ (.inl (t, x)) n.toNatClampNeg, .ref σ.1.length :: r)
    | none => none) else none
  | _ => none
/-- these bytes are bytes -/
def mm_byt (f : Nat → Int32) (sp n : Nat) : Bool := (List.range n).all (fun i => fits .byte (.int (f (sp + i))))
def mm_copy (P : mm_P) (σ : mm_H) (S : List Value) : Option (mm_H × List Value) := match S with
  | .int n :: .int dp :: .ref b :: .int sp :: .ref a :: r => if sp < 0 ∨ dp < 0 ∨ n < 0 then none else (match σ.1[a]?, σ.1[b]? with
    | some (.inl (0, n0, .inl f)), some (.inl (0, n1, .inl g)) => if sp.toNatClampNeg + n.toNatClampNeg ≤ n0 ∧ dp.toNatClampNeg + n.toNatClampNeg ≤ n1 then some (mm_set σ b (.inl (0, n1, .inl (va_cpy f g sp.toNatClampNeg dp.toNatClampNeg n.toNatClampNeg))), r) else none
    | some (.inl (1, n0, .inr (.inl f))), some (.inl (1, n1, .inr (.inl g))) => if sp.toNatClampNeg + n.toNatClampNeg ≤ n0 ∧ dp.toNatClampNeg + n.toNatClampNeg ≤ n1 then some (mm_set σ b (.inl (1, n1, .inr (.inl (va_cpy f g sp.toNatClampNeg dp.toNatClampNeg n.toNatClampNeg)))), r) else none
    | some (.inl (2, n0, .inl f)), some (.inl (2, n1, .inl g)) => if sp.toNatClampNeg + n.toNatClampNeg ≤ n0 ∧ dp.toNatClampNeg + n.toNatClampNeg ≤ n1 ∧ mm_byt f sp.toNatClampNeg n.toNatClampNeg = true then some (mm_set σ b (.inl (2, n1, .inl (va_cpy f g sp.toNatClampNeg dp.toNatClampNeg n.toNatClampNeg))), r) else none
    | none, some (.inl (2, n1, .inl g)) => (match P.1 a with
      | some (2, n0, .inl f) => if 1000000 ≤ a ∧ sp.toNatClampNeg + n.toNatClampNeg ≤ n0 ∧ dp.toNatClampNeg + n.toNatClampNeg ≤ n1 ∧ mm_byt f sp.toNatClampNeg n.toNatClampNeg = true then some (mm_set σ b (.inl (2, n1, .inl (va_cpy f g sp.toNatClampNeg dp.toNatClampNeg n.toNatClampNeg))), r) else none
      | _ => none)
    | _, _ => none)
  | _ => none
/-- a byte array's copy (clone, cast to its own class) -/
def mm_clone (σ : mm_H) (S : List Value) : Option (mm_H × List Value) := match S with
  | .ref a :: r => (match σ.1[a]? with
    | some (.inl (2, n, .inl f)) => if σ.2.1 = true ∧ σ.1.length < 1000000 ∧ mm_byt f 0 n = true then some (mm_add σ (.inl (2, n, .inl f)) n, .ref σ.1.length :: r) else none
    | _ => none)
  | _ => none
def mm_sum (S : List Value) : Nat := (S.map fun v => v.category).sum
/-- a call's arguments and the rest of the stack; n of them (with the receiver) -/
def mm_take (n : Nat) (S : List Value) : Option (List Value × List Value) := if n ≤ S.length ∧ mm_sum (S.drop n) ≤ 24 then some ((S.take n).reverse, S.drop n) else none
/-- the receiver of an instance call: an object of class ci (ci = 100: a String constant) -/
def mm_isr (P : mm_P) (σ : mm_H) (ci : Nat) (A : List Value) : Bool := match A with
  | .ref a :: _ => if ci = 100 then (if a < 1000000 then (match σ.1[a]? with
    | some (.inr (c, _)) => c == 11
    | _ => false) else (P.2.1 a 0).isSome) else (match σ.1[a]? with
    | some (.inr (c, _)) => c == ci
    | _ => false)
  | _ => false
def mm_back (hs : List (String × Nat × Nat × Nat)) (pc : Nat) (L : mm_L) (rest : List Value) (r : mm_R) : Option mm_N := match r with
  | (.inl v, σ') => some (.inl (pc + 3, L, v.toList ++ rest, σ'))
  | (.inr E, σ') => (match hs with
    | [] => some (.inr (.inr E, σ'))
    | _ => (match hs.lookup E with
      | some (h, len, k) => if k < L.length then some (.inl (h + len, (mm_kl L k).set k none, [], σ')) else none
      | none => none))
def mm_step (P : mm_P) (call : Nat → List Value → mm_H → Option mm_R) (op : mm_Op) (pc len : Nat) (L : mm_L) (S : List Value) (σ : mm_H) : Option mm_N := match op with
  | (0, _, _, _, _, i, _) => (match mm_alu i S with
    | some r => some (.inl (pc + len, L, r, σ))
    | none => none)
  | (1, _, _, _, _, i, _) => (match mm_br pc len i S with
    | some (t, r) => some (.inl (t, L, r, σ))
    | none => none)
  | (2, _, _, _, _, i, _) => (match mm_loc i L S with
    | some (L', r) => some (.inl (pc + len, L', r, σ))
    | none => none)
  | (3, _, _, _, _, i, _) => (match mm_ard P.1 i σ S with
    | some r => some (.inl (pc + len, L, r, σ))
    | none => none)
  | (4, a, _, _, _, i, _) => (match mm_ret a i S with
    | some o => some (.inr (.inl o, σ))
    | none => none)
  | (5, a, _, _, _, _, _) => (match P.2.2.1 a with
    | some v => some (.inl (pc + len, L, v :: S, σ))
    | none => none)
  | (6, a, _, _, _, _, _) => some (.inl (pc + len, L, .ref (2000000 + a) :: S, σ))
  | (7, a, b, _, _, _, _) => (match mm_getf σ a b S with
    | some r => some (.inl (pc + len, L, r, σ))
    | none => none)
  | (8, a, b, _, _, _, _) => (match mm_putf P σ a b S with
    | some (σ', r) => some (.inl (pc + len, L, r, σ'))
    | none => none)
  | (9, a, _, _, _, _, _) => (match P.2.2.2.1 a with
    | some v => some (.inl (pc + len, L, v :: S, σ))
    | none => none)
  | (10, a, _, _, _, _, _) => (match mm_getO P σ a S with
    | some r => some (.inl (pc + len, L, r, σ))
    | none => none)
  | (11, a, _, _, _, _, _) => (match mm_new P σ a with
    | some (σ', v) => some (.inl (pc + len, L, v :: S, σ'))
    | none => none)
  | (12, a, _, _, _, _, _) => (match mm_newa σ a S with
    | some (σ', r) => some (.inl (pc + len, L, r, σ'))
    | none => none)
  | (13, _, _, _, _, i, _) => (match mm_awr i σ S with
    | some (σ', r) => some (.inl (pc + len, L, r, σ'))
    | none => none)
  | (14, _, _, _, _, _, _) => (match S with
    | .ref _ :: r => if mm_sum r ≤ 24 then some (.inl (pc + len, L, r, σ)) else none
    | _ => none)
  | (15, a, b, c, d, _, hs) => (match mm_take b S with
    | some (A, r) => if d = 1 ∨ mm_isr P σ c A = true then (match call a A σ with
      | some res => mm_back hs pc L r res
      | none => none) else none
    | none => none)
  | (16, _, _, _, _, _, hs) => (match hs with
    | (E, _) :: _ => if mm_sum S ≤ 24 then some (.inr (.inr E, (σ.1, false, σ.2.2.1 + 1, σ.2.2.2 + 6))) else none
    | _ => none)
  | (17, _, _, _, _, _, _) => (match mm_copy P σ S with
    | some (σ', r) => if mm_sum r ≤ 24 then some (.inl (pc + len, L, r, σ')) else none
    | none => none)
  | (18, _, _, _, _, _, _) => (match S with
    | .int y :: .int x :: r => if mm_sum r ≤ 24 then some (.inl (pc + len, L, .int (if x < y then y else x) :: r, σ)) else none
    | _ => none)
  | (19, _, _, _, _, _, _) => (match S with
    | .int y :: .int x :: r => if mm_sum r ≤ 24 then some (.inl (pc + len, L, .int (if y < x then y else x) :: r, σ)) else none
    | _ => none)
  | (20, _, _, _, _, _, _) => (match mm_clone σ S with
    | some (σ', r) => if mm_sum r ≤ 24 then some (.inl (pc + len, L, r, σ')) else none
    | none => none)
  | _ => none
def mm_go (P : mm_P) (call : Nat → List Value → mm_H → Option mm_R) (code : mm_Code) : Nat → Nat → mm_L → List Value → mm_H → Option mm_R
  | 0, _, _, _, _ => none
  | n + 1, pc, L, S, σ => match code.lookup pc with
    | some (len, op) => (match mm_step P call op pc len L S σ with
      | some (.inl (pc', L', S', σ')) => mm_go P call code n pc' L' S' σ'
      | some (.inr r) => some r
      | none => none)
    | none => none
def mm_args : List Value → mm_L
  | [] => []
  | v :: r => if v.category = 2 then some v :: none :: mm_args r else some v :: mm_args r
def mm_entry (A : List Value) (nL : Nat) : mm_L := mm_args A ++ List.replicate (nL - (mm_args A).length) none
/-- method y over its arguments, at depth d, N steps a method -/
def mm_run (P : mm_P) (M : Nat → Option (mm_Code × Nat)) (N : Nat) : Nat → Nat → List Value → mm_H → Option mm_R
  | 0, _, _, _ => none
  | d + 1, y, A, σ => match M y with
    | some (code, nL) => if (mm_args A).length ≤ nL then mm_go P (mm_run P M N d) code N 0 (mm_entry A nL) [] σ else none
    | none => none
