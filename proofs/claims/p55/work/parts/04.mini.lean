/-! THE MINI MACHINE: a small pure interpreter of the program's own bytecode over a heap of PLACES (the k-th cell that is made is place k; a reference is its place). Old things (static arrays, the script, String constants) have places from 1000000 on. -/
abbrev mm_C : Type := (Nat × vp_A) ⊕ (Nat × List Value)
abbrev mm_H : Type := List mm_C × Bool × Nat × Nat
abbrev mm_L : Type := List (Option Value)
/-- kind, four numbers, the instruction, handlers: the class thrown, the handler's pc, the length of its astore, its local -/
abbrev mm_Op : Type := Nat × Nat × Nat × Nat × Nat × Instr × List (String × Nat × Nat × Nat)
abbrev mm_Code : Type := List (Nat × Nat × mm_Op)
abbrev mm_R : Type := (Option Value ⊕ String) × mm_H
abbrev mm_N : Type := (Nat × mm_L × List Value × mm_H) ⊕ mm_R
def mm_ii (f : Int32 → Int32 → Int32) (S : List Value) : Option (List Value) := match S with
  | .int y :: .int x :: r => some (.int (f x y) :: r)
  | _ => none
def mm_iz (f : Int32 → Int32 → Int32) (S : List Value) : Option (List Value) := match S with
  | .int y :: .int x :: r => if y = 0 then none else some (.int (f x y) :: r)
  | _ => none
def mm_jj (f : Int64 → Int64 → Int64) (S : List Value) : Option (List Value) := match S with
  | .long y :: .long x :: r => some (.long (f x y) :: r)
  | _ => none
def mm_ji (f : Int64 → Int32 → Int64) (S : List Value) : Option (List Value) := match S with
  | .int y :: .long x :: r => some (.long (f x y) :: r)
  | _ => none
def mm_dd (f : UInt64 → UInt64 → UInt64) (S : List Value) : Option (List Value) := match S with
  | .double y :: .double x :: r => if f x y &&& 0x7fffffffffffffff ≤ 0x7ff0000000000000 then some (.double (f x y) :: r) else none
  | _ => none
def mm_i (f : Int32 → Value) (S : List Value) : Option (List Value) := match S with
  | .int x :: r => some (f x :: r)
  | _ => none
def mm_j (f : Int64 → Value) (S : List Value) : Option (List Value) := match S with
  | .long x :: r => some (f x :: r)
  | _ => none
/-- instructions over the operand stack alone -/
def mm_alu (i : Instr) (S : List Value) : Option (List Value) := match i with
  | .iconst n => some (.int (Int32.ofInt n) :: S)
  | .bipush n => some (.int (Int8.ofInt n).toInt32 :: S)
  | .sipush n => some (.int (Int16.ofInt n).toInt32 :: S)
  | .lconst n => some (.long (Int64.ofNat (n : Nat)) :: S)
  | .dconst n => if (n : Nat) = 0 then some (.double FP.dconst0 :: S) else if (n : Nat) = 1 then some (.double FP.dconst1 :: S) else none
  | .aconst_null => some (.null :: S)
  | .iadd => mm_ii (fun x y => x + y) S
  | .isub => mm_ii (fun x y => x - y) S
  | .imul => mm_ii (fun x y => x * y) S
  | .iand => mm_ii (fun x y => x &&& y) S
  | .ior => mm_ii (fun x y => x ||| y) S
  | .ixor => mm_ii (fun x y => x ^^^ y) S
  | .ishl => mm_ii (fun x y => x <<< (y &&& 31)) S
  | .ishr => mm_ii (fun x y => x >>> (y &&& 31)) S
  | .iushr => mm_ii (fun x y => (x.toUInt32 >>> (y.toUInt32 &&& Int32.toUInt32 31)).toInt32) S
  | .idiv => mm_iz (fun x y => x / y) S
  | .irem => mm_iz (fun x y => x - x / y * y) S
  | .ineg => mm_i (fun x => .int (-x)) S
  | .ladd => mm_jj (fun x y => x + y) S
  | .lsub => mm_jj (fun x y => x - y) S
  | .lmul => mm_jj (fun x y => x * y) S
  | .land => mm_jj (fun x y => x &&& y) S
  | .lor => mm_jj (fun x y => x ||| y) S
  | .lxor => mm_jj (fun x y => x ^^^ y) S
  | .lneg => mm_j (fun x => .long (-x)) S
  | .lshl => mm_ji (fun x y => x <<< (y.toInt64 &&& 63)) S
  | .lshr => mm_ji (fun x y => x >>> (y.toInt64 &&& 63)) S
  | .lushr => mm_ji (fun x y => (x.toUInt64 >>> (y.toInt64.toUInt64 &&& Int64.toUInt64 63)).toInt64) S
  | .lcmp => (match S with
    | .long y :: .long x :: r => some (.int (lg_cmp x y) :: r)
    | _ => none)
  | .i2l => mm_i (fun x => .long x.toInt64) S
  | .l2i => mm_j (fun x => .int x.toInt32) S
  | .i2b => mm_i (fun x => .int x.toInt8.toInt32) S
  | .i2c => mm_i (fun x => .int (x.toUInt32 % 65536).toInt32) S
  | .i2d => mm_i (fun x => .double (FP.i2d x)) S
  | .dadd => mm_dd FP.dadd S
  | .dsub => mm_dd FP.dsub S
  | .dmul => mm_dd FP.dmul S
  | .ddiv => mm_dd FP.ddiv S
  | .dcmp op => (match S with
    | .double y :: .double x :: r => some (.int (Op.cmpValue (FP.dcmp x y) op) :: r)
    | _ => none)
  | .dup => (match S with
    | v :: r => if v.category = 1 then some (v :: v :: r) else none
    | _ => none)
  | .pop => (match S with
    | v :: r => if v.category = 1 then some r else none
    | _ => none)
  | .dup_x1 => (match S with
    | v :: w :: r => if v.category = 1 ∧ w.category = 1 then some (v :: w :: v :: r) else none
    | _ => none)
  | .dup2 => (match S with
    | v :: r => if v.category = 2 then some (v :: v :: r) else (match r with
      | w :: q => if v.category = 1 ∧ w.category = 1 then some (v :: w :: v :: w :: q) else none
      | _ => none)
    | _ => none)
  | _ => none
def mm_c0 (c : ClassFile.Cond) (x y : Int32) : Prop := match c with
  | .eq => x = y
  | .ne => ¬ x = y
  | .lt => x < y
  | .ge => y ≤ x
  | .gt => y < x
  | .le => x ≤ y
def mm_c0d (c : ClassFile.Cond) (x y : Int32) : Decidable (mm_c0 c x y) := match c with
  | .eq => inferInstanceAs (Decidable (x = y))
  | .ne => inferInstanceAs (Decidable (¬ x = y))
  | .lt => inferInstanceAs (Decidable (x < y))
  | .ge => inferInstanceAs (Decidable (y ≤ x))
  | .gt => inferInstanceAs (Decidable (y < x))
  | .le => inferInstanceAs (Decidable (x ≤ y))
/-- a jump's target -/
def mm_to (pc : Nat) (off : Int) : Option Nat := match (pc : Int) + off with
  | .ofNat t => some t
  | .negSucc _ => none
/-- jumps: the next pc, and the stack -/
def mm_br (pc len : Nat) (i : Instr) (S : List Value) : Option (Nat × List Value) := match i with
  | .goto off => (match mm_to pc off with
    | some t => some (t, S)
    | none => none)
  | .ifCond c off => (match mm_to pc off with
    | some t => (match S with
      | .int x :: r => @ite _ (mm_c0 c x 0) (mm_c0d c x 0) (some (t, r)) (some (pc + len, r))
      | _ => none)
    | none => none)
  | .if_icmp c off => (match mm_to pc off with
    | some t => (match S with
      | .int y :: .int x :: r => @ite _ (mm_c0 c x y) (mm_c0d c x y) (some (t, r)) (some (pc + len, r))
      | _ => none)
    | none => none)
  | .ifnull off => (match mm_to pc off with
    | some t => (match S with
      | .null :: r => some (t, r)
      | .ref _ :: r => some (pc + len, r)
      | _ => none)
    | none => none)
  | .ifnonnull off => (match mm_to pc off with
    | some t => (match S with
      | .null :: r => some (pc + len, r)
      | .ref _ :: r => some (t, r)
      | _ => none)
    | none => none)
  | .tableswitch d lo hi offs => (match S with
    | .int x :: r => if x.toInt < lo ∨ hi < x.toInt then (match mm_to pc d with
        | some t => some (t, r)
        | none => none) else (match offs[(x.toInt - lo).toNat]? with
      | some off => (match mm_to pc off with
        | some t => some (t, r)
        | none => none)
      | none => none)
    | _ => none)
  | _ => none
/-- locals -/
def mm_kl (L : mm_L) (k : Nat) : mm_L := match k with
  | 0 => L
  | j + 1 => (match L[j]? with
    | some (some v) => if v.category = 2 then L.set j none else L
    | _ => L)
def mm_st1 (L : mm_L) (k : Nat) (v : Value) : Option mm_L := if k < L.length then some ((mm_kl L k).set k (some v)) else none
def mm_st2 (L : mm_L) (k : Nat) (v : Value) : Option mm_L := if k + 1 < L.length then some (((mm_kl L k).set k (some v)).set (k + 1) none) else none
def mm_ldi (L : mm_L) (k : Nat) (S : List Value) : Option (mm_L × List Value) := match L[k]? with
  | some (some (.int x)) => some (L, .int x :: S)
  | _ => none
def mm_ldj (L : mm_L) (k : Nat) (S : List Value) : Option (mm_L × List Value) := match L[k]? with
  | some (some (.long x)) => some (L, .long x :: S)
  | _ => none
def mm_ldd (L : mm_L) (k : Nat) (S : List Value) : Option (mm_L × List Value) := match L[k]? with
  | some (some (.double x)) => some (L, .double x :: S)
  | _ => none
def mm_lda (L : mm_L) (k : Nat) (S : List Value) : Option (mm_L × List Value) := match L[k]? with
  | some (some (.ref x)) => some (L, .ref x :: S)
  | some (some .null) => some (L, .null :: S)
  | some (some (.retAddr x)) => some (L, .retAddr x :: S)
  | _ => none
def mm_sti (L : mm_L) (k : Nat) (S : List Value) : Option (mm_L × List Value) := match S with
  | .int x :: r => (mm_st1 L k (.int x)).map (fun L' => (L', r))
  | _ => none
def mm_stj (L : mm_L) (k : Nat) (S : List Value) : Option (mm_L × List Value) := match S with
  | .long x :: r => (mm_st2 L k (.long x)).map (fun L' => (L', r))
  | _ => none
def mm_std (L : mm_L) (k : Nat) (S : List Value) : Option (mm_L × List Value) := match S with
  | .double x :: r => (mm_st2 L k (.double x)).map (fun L' => (L', r))
  | _ => none
def mm_sta (L : mm_L) (k : Nat) (S : List Value) : Option (mm_L × List Value) := match S with
  | .ref x :: r => (mm_st1 L k (.ref x)).map (fun L' => (L', r))
  | .null :: r => (mm_st1 L k .null).map (fun L' => (L', r))
  | _ => none
def mm_inc (L : mm_L) (k : Nat) (n : Int) (S : List Value) : Option (mm_L × List Value) := match L[k]? with
  | some (some (.int x)) => (mm_st1 L k (.int (x + Int32.ofInt n))).map (fun L' => (L', S))
  | _ => none
def mm_loc (i : Instr) (L : mm_L) (S : List Value) : Option (mm_L × List Value) := match i with
  | .iload k => mm_ldi L k S
  | .iload_n k => mm_ldi L k S
  | .lload k => mm_ldj L k S
  | .lload_n k => mm_ldj L k S
  | .dload k => mm_ldd L k S
  | .dload_n k => mm_ldd L k S
  | .aload k => mm_lda L k S
  | .aload_n k => mm_lda L k S
  | .istore k => mm_sti L k S
  | .istore_n k => mm_sti L k S
  | .lstore k => mm_stj L k S
  | .lstore_n k => mm_stj L k S
  | .dstore k => mm_std L k S
  | .dstore_n k => mm_std L k S
  | .astore k => mm_sta L k S
  | .astore_n k => mm_sta L k S
  | .iinc k n => mm_inc L k n S
  | _ => none
/-- arrays that are read: by their places, old ones from 'old' -/
def mm_arr (old : Nat → Option (Nat × vp_A)) (σ : mm_H) (a : Nat) : Option (Nat × vp_A) := if a < 1000000 then (match σ.1[a]? with
  | some (.inl x) => some x
  | _ => none) else old a
def mm_ard (old : Nat → Option (Nat × vp_A)) (i : Instr) (σ : mm_H) (S : List Value) : Option (List Value) := match i with
  | .iaload => (match S with
    | .int j :: .ref a :: r => (match mm_arr old σ a with
      | some (0, n, .inl f) => if j < 0 ∨ n ≤ j.toNatClampNeg then none else some (.int (f j.toNatClampNeg) :: r)
      | _ => none)
    | _ => none)
  | .laload => (match S with
    | .int j :: .ref a :: r => (match mm_arr old σ a with
      | some (1, n, .inr (.inl f)) => if j < 0 ∨ n ≤ j.toNatClampNeg then none else some (.long (f j.toNatClampNeg) :: r)
      | _ => none)
    | _ => none)
  | .baload => (match S with
    | .int j :: .ref a :: r => (match mm_arr old σ a with
      | some (2, n, .inl f) => if j < 0 ∨ n ≤ j.toNatClampNeg then none else some (.int (f j.toNatClampNeg) :: r)
      | some (3, n, .inl f) => if j < 0 ∨ n ≤ j.toNatClampNeg then none else some (.int (f j.toNatClampNeg) :: r)
      | _ => none)
    | _ => none)
  | .aaload => (match S with
    | .int j :: .ref a :: r => (match mm_arr old σ a with
      | some (5, n, .inr (.inr (.inr (.inr f)))) => if j < 0 ∨ n ≤ j.toNatClampNeg then none else some (va_rf (f j.toNatClampNeg) :: r)
      | _ => none)
    | _ => none)
  | .arraylength => (match S with
    | .ref a :: r => (match mm_arr old σ a with
      | some (t, n, _) => if t < 6 then some (.int (Int32.ofNat n) :: r) else none
      | _ => none)
    | _ => none)
  | _ => none
def mm_set (σ : mm_H) (a : Nat) (x : mm_C) : mm_H := (σ.1.set a x, σ.2)
def mm_awr (i : Instr) (σ : mm_H) (S : List Value) : Option (mm_H × List Value) := match i with
  | .iastore => (match S with
    | .int x :: .int j :: .ref a :: r => (match σ.1[a]? with
      | some (.inl (0, n, .inl f)) => if j < 0 ∨ n ≤ j.toNatClampNeg then none else some (mm_set σ a (.inl (0, n, .inl (upd f j.toNatClampNeg x))), r)
      | _ => none)
    | _ => none)
  | .lastore => (match S with
    | .long x :: .int j :: .ref a :: r => (match σ.1[a]? with
      | some (.inl (1, n, .inr (.inl f))) => if j < 0 ∨ n ≤ j.toNatClampNeg then none else some (mm_set σ a (.inl (1, n, .inr (.inl (vp_updL f j.toNatClampNeg x)))), r)
      | _ => none)
    | _ => none)
  | .bastore => (match S with
    | .int x :: .int j :: .ref a :: r => (match σ.1[a]? with
      | some (.inl (2, n, .inl f)) => if j < 0 ∨ n ≤ j.toNatClampNeg then none else some (mm_set σ a (.inl (2, n, .inl (upd f j.toNatClampNeg (vp_nar .byte x)))), r)
      | some (.inl (3, n, .inl f)) => if j < 0 ∨ n ≤ j.toNatClampNeg then none else some (mm_set σ a (.inl (3, n, .inl (upd f j.toNatClampNeg (vp_nar .boolean x)))), r)
      | _ => none)
    | _ => none)
  | .aastore => (match S with
    | .ref v :: .int j :: .ref a :: r => (match σ.1[a]? with
      | some (.inl (5, n, .inr (.inr (.inr (.inr f))))) => if j < 0 ∨ n ≤ j.toNatClampNeg then none else (match σ.1[v]? with
        | some (.inr (5, _)) => some (mm_set σ a (.inl (5, n, .inr (.inr (.inr (.inr (va_up f j.toNatClampNeg (some v))))))), r)
        | _ => none)
      | _ => none)
    | _ => none)
  | _ => none
