/-! A PURE MACHINE over a fixed set of cells: what a method does, said without the JVM's heap.
Cells never come or go here and references in them never change, so the heap's picture is just its numbers:
h.1 cell place (ints, bytes, booleans), h.2 cell place (longs). A reference is the number of its cell. -/
abbrev ia_C : Type := (FieldType × Nat) ⊕ ((Nat × List (Nat ⊕ Bool)) ⊕ (String × List Nat))
abbrev ia_H : Type := (Nat → Nat → Int32) × (Nat → Nat → Int64)
abbrev ia_L : Type := List (Option Value)
/-- pc, locals, stack, heap -/
abbrev ia_S : Type := Nat × ia_L × List Value × ia_H
/-- an entry of a method's table: place, instruction, length, two numbers (target, class and slot, callee and parameters), place of its word, constant, switch -/
abbrev ia_E : Type := Nat × Instr × Nat × Nat × Nat × Nat × Value × List (Int × Nat)
/-- what an instruction does: go on; go on under a guard; go on at a place of an array; branch; switch; call; return; return under a guard -/
abbrev ia_O : Type := Option (ia_S ⊕ ((Prop × ia_S) ⊕ ((Int32 × Nat × (Nat → ia_S)) ⊕ ((Prop × ia_S × ia_S) ⊕ ((Int32 × List (Int × Nat) × Nat × ia_L × List Value × ia_H) ⊕ ((Nat × List Value × Nat × ia_L × List Value × ia_H) ⊕ ((Option Value × ia_H) ⊕ (Prop × Option Value × ia_H))))))))
abbrev ia_go (s : ia_S) : ia_O := some (.inl s)
abbrev ia_gd (g : Prop) (s : ia_S) : ia_O := some (.inr (.inl (g, s)))
abbrev ia_ix (i : Int32) (n : Nat) (s : Nat → ia_S) : ia_O := some (.inr (.inr (.inl (i, n, s))))
abbrev ia_br (c : Prop) (s t : ia_S) : ia_O := some (.inr (.inr (.inr (.inl (c, s, t)))))
abbrev ia_swo (x : Int32) (ts : List (Int × Nat)) (d : Nat) (ls : ia_L) (st : List Value) (h : ia_H) : ia_O := some (.inr (.inr (.inr (.inr (.inl (x, ts, d, ls, st, h))))))
abbrev ia_call (y : Nat) (as : List Value) (pc : Nat) (ls : ia_L) (st : List Value) (h : ia_H) : ia_O := some (.inr (.inr (.inr (.inr (.inr (.inl (y, as, pc, ls, st, h)))))))
abbrev ia_ret (r : Option Value) (h : ia_H) : ia_O := some (.inr (.inr (.inr (.inr (.inr (.inr (.inl (r, h))))))))
abbrev ia_rg (g : Prop) (r : Option Value) (h : ia_H) : ia_O := some (.inr (.inr (.inr (.inr (.inr (.inr (.inr (g, r, h))))))))
def ia_get : ia_L → Nat → Option Value
  | [], _ => none
  | v :: _, 0 => v
  | _ :: t, k + 1 => ia_get t k
def ia_set : ia_L → Nat → Option Value → ia_L
  | [], _, _ => []
  | _ :: t, 0, v => v :: t
  | w :: t, k + 1, v => w :: ia_set t k v
/-- a long or double that ends at place i is gone -/
def ia_clr (ls : ia_L) : Nat → ia_L
  | 0 => ls
  | k + 1 => match ia_get ls k with
    | some (.long _) => ia_set ls k none
    | some (.double _) => ia_set ls k none
    | _ => ls
def ia_st1 (ls : ia_L) (i : Nat) (v : Value) : ia_L := ia_set (ia_clr ls i) i (some v)
def ia_st2 (ls : ia_L) (i : Nat) (v : Value) : ia_L := ia_set (ia_set (ia_clr ls i) i (some v)) (i + 1) none
def ia_setK {α : Type} : ia_L → Nat → Option Value → (ia_L → α) → α
  | [], _, _, k => k []
  | _ :: t, 0, v, k => k (v :: t)
  | w :: t, i + 1, v, k => ia_setK t i v (fun t' => k (w :: t'))
theorem ia_setK_eq {α : Type} : ∀ (ls : ia_L) (i : Nat) (v : Option Value) (k : ia_L → α), ia_setK ls i v k = k (ia_set ls i v)
  | [], _, _, _ => rfl
  | _ :: _, 0, _, _ => rfl
  | _ :: t, i + 1, v, _ => ia_setK_eq t i v _
def ia_st1K {α : Type} (ls : ia_L) (i : Nat) (v : Value) (k : ia_L → α) : α := match i with
  | 0 => ia_setK ls 0 (some v) k
  | j + 1 => match ia_get ls j with
    | some (.long _) => ia_setK ls j none (fun l => ia_setK l (j + 1) (some v) k)
    | some (.double _) => ia_setK ls j none (fun l => ia_setK l (j + 1) (some v) k)
    | _ => ia_setK ls (j + 1) (some v) k
theorem ia_st1K_eq {α : Type} (ls : ia_L) (i : Nat) (v : Value) (k : ia_L → α) : ia_st1K ls i v k = k (ia_st1 ls i v) := by
  cases i with
  | zero => simp only [ia_st1K, ia_st1, ia_clr, ia_setK_eq]
  | succ j =>
    simp only [ia_st1K, ia_st1, ia_clr]
    split <;> simp only [ia_setK_eq]
def ia_st2K {α : Type} (ls : ia_L) (i : Nat) (v : Value) (k : ia_L → α) : α := ia_st1K ls i v (fun l => ia_setK l (i + 1) none k)
theorem ia_st2K_eq {α : Type} (ls : ia_L) (i : Nat) (v : Value) (k : ia_L → α) : ia_st2K ls i v k = k (ia_st2 ls i v) := by
  simp only [ia_st2K, ia_st1K_eq, ia_setK_eq, ia_st2, ia_st1]
def ia_uI (f : Nat → Nat → Int32) (x i : Nat) (v : Int32) : Nat → Nat → Int32 := fun y => if y = x then upd (f x) i v else f y
def ia_uL (f : Nat → Nat → Int64) (x i : Nat) (v : Int64) : Nat → Nat → Int64 := fun y => if y = x then vp_updL (f x) i v else f y
def ia_cpI (f : Nat → Nat → Int32) (x0 x1 sp dp n : Nat) : Nat → Nat → Int32 := fun y => if y = x1 then va_cpy (f x0) (f x1) sp dp n else f y
def ia_at? (Sh : List ia_C) (x : Nat) : Option ia_C := match Sh, x with
  | [], _ => none
  | c :: _, 0 => some c
  | _ :: t, k + 1 => ia_at? t k
def ia_kind : List (Nat ⊕ Bool) → Nat → Option (Nat ⊕ Bool)
  | [], _ => none
  | c :: _, 0 => some c
  | _ :: t, k + 1 => ia_kind t k
def ia_pick : List Nat → Nat → Option Nat
  | [], _ => none
  | c :: _, 0 => some c
  | _ :: t, k + 1 => ia_pick t k
/-- n values off the stack, the deepest first -/
def ia_pop : Nat → List Value → List Value → Option (List Value × List Value)
  | 0, acc, st => some (acc, st)
  | _ + 1, _, [] => none
  | n + 1, acc, v :: st => ia_pop n (v :: acc) st
def ia_f (Sh : List ia_C) (e : ia_E) (ls : ia_L) (st : List Value) (h : ia_H) : ia_O :=
  match e with
  | (pc, ins, len, a, b, _, v, ts) =>
  match ins with
  | .aload_n k => match ia_get ls k.val with
    | some (.ref x) => ia_go (pc + len, ls, .ref x :: st, h)
    | _ => none
  | .aload k => match ia_get ls k with
    | some (.ref x) => ia_go (pc + len, ls, .ref x :: st, h)
    | _ => none
  | .iload_n k => match ia_get ls k.val with
    | some (.int x) => ia_go (pc + len, ls, .int x :: st, h)
    | _ => none
  | .iload k => match ia_get ls k with
    | some (.int x) => ia_go (pc + len, ls, .int x :: st, h)
    | _ => none
  | .lload_n k => match ia_get ls k.val with
    | some (.long x) => ia_go (pc + len, ls, .long x :: st, h)
    | _ => none
  | .lload k => match ia_get ls k with
    | some (.long x) => ia_go (pc + len, ls, .long x :: st, h)
    | _ => none
  | .dload_n k => match ia_get ls k.val with
    | some (.double x) => ia_go (pc + len, ls, .double x :: st, h)
    | _ => none
  | .astore_n k => match st with
    | .ref x :: st => ia_st1K ls k.val (.ref x) (fun l => ia_go (pc + len, l, st, h))
    | _ => none
  | .astore k => match st with
    | .ref x :: st => ia_st1K ls k (.ref x) (fun l => ia_go (pc + len, l, st, h))
    | _ => none
  | .istore_n k => match st with
    | .int x :: st => ia_st1K ls k.val (.int x) (fun l => ia_go (pc + len, l, st, h))
    | _ => none
  | .istore k => match st with
    | .int x :: st => ia_st1K ls k (.int x) (fun l => ia_go (pc + len, l, st, h))
    | _ => none
  | .lstore_n k => match st with
    | .long x :: st => ia_st2K ls k.val (.long x) (fun l => ia_go (pc + len, l, st, h))
    | _ => none
  | .lstore k => match st with
    | .long x :: st => ia_st2K ls k (.long x) (fun l => ia_go (pc + len, l, st, h))
    | _ => none
  | .dstore_n k => match st with
    | .double x :: st => ia_st2K ls k.val (.double x) (fun l => ia_go (pc + len, l, st, h))
    | _ => none
  | .iinc k _ => match ia_get ls k with
    | some (.int x) => match v with
      | .int n => ia_st1K ls k (.int (x + n)) (fun l => ia_go (pc + len, l, st, h))
      | _ => none
    | _ => none
  | .iconst _ => match v with
    | .int x => ia_go (pc + len, ls, .int x :: st, h)
    | _ => none
  | .bipush _ => match v with
    | .int x => ia_go (pc + len, ls, .int x :: st, h)
    | _ => none
  | .sipush _ => match v with
    | .int x => ia_go (pc + len, ls, .int x :: st, h)
    | _ => none
  | .lconst _ => match v with
    | .long x => ia_go (pc + len, ls, .long x :: st, h)
    | _ => none
  | .dconst n => match n.val with
    | 0 => ia_go (pc + len, ls, .double FP.dconst0 :: st, h)
    | _ => none
  | .ldc2_w _ => match v with
    | .long x => ia_go (pc + len, ls, .long x :: st, h)
    | .double x => ia_go (pc + len, ls, .double x :: st, h)
    | _ => none
  | .iadd => match st with
    | .int y :: .int x :: st => ia_go (pc + len, ls, .int (x + y) :: st, h)
    | _ => none
  | .isub => match st with
    | .int y :: .int x :: st => ia_go (pc + len, ls, .int (x - y) :: st, h)
    | _ => none
  | .imul => match st with
    | .int y :: .int x :: st => ia_go (pc + len, ls, .int (x * y) :: st, h)
    | _ => none
  | .irem => match st with
    | .int y :: .int x :: st => ia_gd (¬ y = 0) (pc + len, ls, .int (x - x / y * y) :: st, h)
    | _ => none
  | .iand => match st with
    | .int y :: .int x :: st => ia_go (pc + len, ls, .int (x &&& y) :: st, h)
    | _ => none
  | .ixor => match st with
    | .int y :: .int x :: st => ia_go (pc + len, ls, .int (x ^^^ y) :: st, h)
    | _ => none
  | .ishr => match st with
    | .int y :: .int x :: st => ia_go (pc + len, ls, .int (x >>> (y &&& 31)) :: st, h)
    | _ => none
  | .ladd => match st with
    | .long y :: .long x :: st => ia_go (pc + len, ls, .long (x + y) :: st, h)
    | _ => none
  | .lsub => match st with
    | .long y :: .long x :: st => ia_go (pc + len, ls, .long (x - y) :: st, h)
    | _ => none
  | .lmul => match st with
    | .long y :: .long x :: st => ia_go (pc + len, ls, .long (x * y) :: st, h)
    | _ => none
  | .land => match st with
    | .long y :: .long x :: st => ia_go (pc + len, ls, .long (x &&& y) :: st, h)
    | _ => none
  | .lor => match st with
    | .long y :: .long x :: st => ia_go (pc + len, ls, .long (x ||| y) :: st, h)
    | _ => none
  | .lneg => match st with
    | .long x :: st => ia_go (pc + len, ls, .long (-x) :: st, h)
    | _ => none
  | .lshl => match st with
    | .int y :: .long x :: st => ia_go (pc + len, ls, .long (x <<< (y.toInt64 &&& 63)) :: st, h)
    | _ => none
  | .lcmp => match st with
    | .long y :: .long x :: st => ia_go (pc + len, ls, .int (lg_cmp x y) :: st, h)
    | _ => none
  | .dcmp op => match st with
    | .double y :: .double x :: st => ia_go (pc + len, ls, .int (Op.cmpValue (FP.dcmp x y) op) :: st, h)
    | _ => none
  | .dadd => match st with
    | .double y :: .double x :: st => ia_gd (vf_n64 (FP.dadd x y)) (pc + len, ls, .double (FP.dadd x y) :: st, h)
    | _ => none
  | .dmul => match st with
    | .double y :: .double x :: st => ia_gd (vf_n64 (FP.dmul x y)) (pc + len, ls, .double (FP.dmul x y) :: st, h)
    | _ => none
  | .ddiv => match st with
    | .double y :: .double x :: st => ia_gd (vf_n64 (FP.ddiv x y)) (pc + len, ls, .double (FP.ddiv x y) :: st, h)
    | _ => none
  | .dneg => match st with
    | .double x :: st => ia_go (pc + len, ls, .double (FP.dneg x) :: st, h)
    | _ => none
  | .i2l => match st with
    | .int x :: st => ia_go (pc + len, ls, .long x.toInt64 :: st, h)
    | _ => none
  | .i2b => match st with
    | .int x :: st => ia_go (pc + len, ls, .int x.toInt8.toInt32 :: st, h)
    | _ => none
  | .i2d => match st with
    | .int x :: st => ia_go (pc + len, ls, .double (FP.i2d x) :: st, h)
    | _ => none
  | .l2d => match st with
    | .long x :: st => ia_go (pc + len, ls, .double (FP.l2d x) :: st, h)
    | _ => none
  | .d2l => match st with
    | .double x :: st => ia_go (pc + len, ls, .long (FP.d2l x) :: st, h)
    | _ => none
  | .dup => match st with
    | .int x :: st => ia_go (pc + len, ls, .int x :: .int x :: st, h)
    | .ref x :: st => ia_go (pc + len, ls, .ref x :: .ref x :: st, h)
    | _ => none
  | .dup2 => match st with
    | .int y :: .int x :: st => ia_go (pc + len, ls, .int y :: .int x :: .int y :: .int x :: st, h)
    | .int y :: .ref x :: st => ia_go (pc + len, ls, .int y :: .ref x :: .int y :: .ref x :: st, h)
    | _ => none
  | .goto _ => ia_go (a, ls, st, h)
  | .if_icmp c _ => match st with
    | .int y :: .int x :: st => match c with
      | .eq => ia_br (x = y) (a, ls, st, h) (pc + len, ls, st, h)
      | .ne => ia_br (x = y) (pc + len, ls, st, h) (a, ls, st, h)
      | .lt => ia_br (x < y) (a, ls, st, h) (pc + len, ls, st, h)
      | .ge => ia_br (x < y) (pc + len, ls, st, h) (a, ls, st, h)
      | .gt => ia_br (y < x) (a, ls, st, h) (pc + len, ls, st, h)
      | .le => ia_br (y < x) (pc + len, ls, st, h) (a, ls, st, h)
    | _ => none
  | .ifCond c _ => match st with
    | .int x :: st => match c with
      | .eq => ia_br (x = 0) (a, ls, st, h) (pc + len, ls, st, h)
      | .ne => ia_br (x = 0) (pc + len, ls, st, h) (a, ls, st, h)
      | .lt => ia_br (x < 0) (a, ls, st, h) (pc + len, ls, st, h)
      | .ge => ia_br (x < 0) (pc + len, ls, st, h) (a, ls, st, h)
      | .gt => ia_br (0 < x) (a, ls, st, h) (pc + len, ls, st, h)
      | .le => ia_br (0 < x) (pc + len, ls, st, h) (a, ls, st, h)
    | _ => none
  | .tableswitch _ _ _ _ => match st with
    | .int x :: st => ia_swo x ts a ls st h
    | _ => none
  | .lookupswitch _ _ => match st with
    | .int x :: st => ia_swo x ts a ls st h
    | _ => none
  | .getfield _ => match st with
    | .ref x :: st => match ia_at? Sh x with
      | some (.inr (.inl (ci, ks))) => bif Nat.beq ci a then (match ia_kind ks b with
        | some (.inl y) => ia_go (pc + len, ls, .ref y :: st, h)
        | some (.inr false) => ia_go (pc + len, ls, .int (h.1 x b) :: st, h)
        | some (.inr true) => ia_go (pc + len, ls, .long (h.2 x b) :: st, h)
        | none => none) else none
      | _ => none
    | _ => none
  | .putfield _ => match st with
    | .int z :: .ref x :: st => match ia_at? Sh x with
      | some (.inr (.inl (ci, ks))) => bif Nat.beq ci a then (match ia_kind ks b with
        | some (.inr false) => ia_go (pc + len, ls, st, (ia_uI h.1 x b z, h.2))
        | _ => none) else none
      | _ => none
    | .long z :: .ref x :: st => match ia_at? Sh x with
      | some (.inr (.inl (ci, ks))) => bif Nat.beq ci a then (match ia_kind ks b with
        | some (.inr true) => ia_go (pc + len, ls, st, (h.1, ia_uL h.2 x b z))
        | _ => none) else none
      | _ => none
    | _ => none
  | .iaload => match st with
    | .int i :: .ref x :: st => match ia_at? Sh x with
      | some (.inl (.int, n)) => ia_ix i n (fun j => (pc + len, ls, .int (h.1 x j) :: st, h))
      | _ => none
    | _ => none
  | .baload => match st with
    | .int i :: .ref x :: st => match ia_at? Sh x with
      | some (.inl (.byte, n)) => ia_ix i n (fun j => (pc + len, ls, .int (h.1 x j) :: st, h))
      | some (.inl (.boolean, n)) => ia_ix i n (fun j => (pc + len, ls, .int (h.1 x j) :: st, h))
      | _ => none
    | _ => none
  | .laload => match st with
    | .int i :: .ref x :: st => match ia_at? Sh x with
      | some (.inl (.long, n)) => ia_ix i n (fun j => (pc + len, ls, .long (h.2 x j) :: st, h))
      | _ => none
    | _ => none
  | .iastore => match st with
    | .int z :: .int i :: .ref x :: st => match ia_at? Sh x with
      | some (.inl (.int, n)) => ia_ix i n (fun j => (pc + len, ls, st, (ia_uI h.1 x j z, h.2)))
      | _ => none
    | _ => none
  | .bastore => match st with
    | .int z :: .int i :: .ref x :: st => match ia_at? Sh x with
      | some (.inl (.byte, n)) => ia_ix i n (fun j => (pc + len, ls, st, (ia_uI h.1 x j (vp_nar .byte z), h.2)))
      | some (.inl (.boolean, n)) => ia_ix i n (fun j => (pc + len, ls, st, (ia_uI h.1 x j (vp_nar .boolean z), h.2)))
      | _ => none
    | _ => none
  | .lastore => match st with
    | .long z :: .int i :: .ref x :: st => match ia_at? Sh x with
      | some (.inl (.long, n)) => ia_ix i n (fun j => (pc + len, ls, st, (h.1, ia_uL h.2 x j z)))
      | _ => none
    | _ => none
  | .aaload => match st with
    | .int i :: .ref x :: st => match ia_at? Sh x with
      | some (.inr (.inr (_, l))) => ia_ix i l.length (fun j => (pc + len, ls, .ref ((ia_pick l j).getD 0) :: st, h))
      | _ => none
    | _ => none
  | .arraylength => match st with
    | .ref x :: st => match ia_at? Sh x with
      | some (.inl (_, n)) => ia_go (pc + len, ls, .int (Int32.ofNat n) :: st, h)
      | some (.inr (.inr (_, l))) => ia_go (pc + len, ls, .int (Int32.ofNat l.length) :: st, h)
      | _ => none
    | _ => none
  | .invokevirtual _ => match ia_pop b [] st with
    | some (as, .ref x :: st) => match ia_at? Sh x with
      | some (.inr (.inl (ci, _))) => match v with
        | .ref cj => bif Nat.beq ci cj then (bif Nat.ble st.length 4 then ia_call a (.ref x :: as) (pc + len) ls st h else none) else none
        | _ => none
      | _ => none
    | _ => none
  | .invokestatic _ => match a with
    | 0 => match st with
      | .double x :: st => bif Nat.ble st.length 4 then ia_go (pc + len, ls, .long x.toInt64 :: st, h) else none
      | _ => none
    | 1 => match st with
      | .int n :: .int dp :: .ref y :: .int sp :: .ref x :: st => match ia_at? Sh x with
        | some (.inl (.int, n0)) => match ia_at? Sh y with
          | some (.inl (.int, n1)) => bif Nat.ble st.length 4 then ia_gd (¬ sp < 0 ∧ ¬ dp < 0 ∧ ¬ n < 0 ∧ sp.toNatClampNeg + n.toNatClampNeg ≤ n0 ∧ dp.toNatClampNeg + n.toNatClampNeg ≤ n1) (pc + len, ls, st, (ia_cpI h.1 x y sp.toNatClampNeg dp.toNatClampNeg n.toNatClampNeg, h.2)) else none
          | _ => none
        | some (.inl (.byte, n0)) => match ia_at? Sh y with
          | some (.inl (.byte, n1)) => bif Nat.ble st.length 4 then ia_gd (¬ sp < 0 ∧ ¬ dp < 0 ∧ ¬ n < 0 ∧ sp.toNatClampNeg + n.toNatClampNeg ≤ n0 ∧ dp.toNatClampNeg + n.toNatClampNeg ≤ n1 ∧ ∀ i, i < n.toNatClampNeg → fits .byte (.int (h.1 x (sp.toNatClampNeg + i))) = true) (pc + len, ls, st, (ia_cpI h.1 x y sp.toNatClampNeg dp.toNatClampNeg n.toNatClampNeg, h.2)) else none
          | _ => none
        | _ => none
      | _ => none
    | 2 => match st with
      | .long y :: .long x :: st => bif Nat.ble st.length 4 then ia_go (pc + len, ls, .long (if y < x then x else y) :: st, h) else none
      | _ => none
    | 3 => match st with
      | .long y :: .long x :: st => bif Nat.ble st.length 4 then ia_go (pc + len, ls, .long (if y < x then y else x) :: st, h) else none
      | _ => none
    | 4 => match st with
      | .long x :: st => bif Nat.ble st.length 4 then ia_go (pc + len, ls, .long (if 0 < x then x else -x) :: st, h) else none
      | _ => none
    | 5 => match st with
      | .int y :: .int x :: st => bif Nat.ble st.length 4 then ia_go (pc + len, ls, .int (if y < x then y else x) :: st, h) else none
      | _ => none
    | a + 6 => match ia_pop b [] st with
      | some (as, st) => bif Nat.ble st.length 4 then ia_call a as (pc + len) ls st h else none
      | none => none
  | .ireturn => match st with
    | [.int x] => match a with
      | 0 => ia_ret (some (.int x)) h
      | _ => ia_rg (x = 0 ∨ x = 1) (some (.int x)) h
    | _ => none
  | .lreturn => match st with
    | [.long x] => ia_ret (some (.long x)) h
    | _ => none
  | .dreturn => match st with
    | [.double x] => ia_ret (some (.double x)) h
    | _ => none
  | .return_ => match st with
    | [] => ia_ret none h
    | _ => none
  | _ => none
/-- a switch: the cases one after the other -/
def ia_sw (X : ia_S → Prop) (x : Int32) (d : Nat) (ls : ia_L) (st : List Value) (h : ia_H) : List (Int × Nat) → Prop
  | [] => X (d, ls, st, h)
  | (k, t) :: ts => (x = Int32.ofInt k → X (t, ls, st, h)) ∧ (¬ x = Int32.ofInt k → ia_sw X x d ls st h ts)
/-- one step: what must hold so that X holds behind it; C: what calls do; Z: what must hold at the end -/
def ia_pre (C : Nat → List Value → ia_H → Option Value → ia_H → Prop) (Z : Option Value → ia_H → Prop) (X : ia_S → Prop) : ia_O → Prop
  | none => False
  | some (.inl s) => X s
  | some (.inr (.inl (g, s))) => ∃ _ : g, X s
  | some (.inr (.inr (.inl (i, n, s)))) => ∃ j : Nat, (i = nI j ∧ j < n) ∧ X (s j)
  | some (.inr (.inr (.inr (.inl (c, s, t))))) => (c → X s) ∧ (¬ c → X t)
  | some (.inr (.inr (.inr (.inr (.inl (x, ts, d, ls, st, h)))))) => ia_sw X x d ls st h ts
  | some (.inr (.inr (.inr (.inr (.inr (.inl (y, as, pc, ls, st, h))))))) => ∃ q : Option Value × ia_H, C y as h q.1 q.2 ∧ X (pc, ls, q.1.toList ++ st, q.2)
  | some (.inr (.inr (.inr (.inr (.inr (.inr (.inl (r, h)))))))) => Z r h
  | some (.inr (.inr (.inr (.inr (.inr (.inr (.inr (g, r, h)))))))) => ∃ _ : g, Z r h
theorem ia_sw_mono {X Y : ia_S → Prop} (hXY : ∀ s, X s → Y s) {x : Int32} {d : Nat} {ls : ia_L} {st : List Value} {h : ia_H} : ∀ {ts : List (Int × Nat)}, ia_sw X x d ls st h ts → ia_sw Y x d ls st h ts
  | [], hx => hXY _ hx
  | (_, _) :: _, hx => ⟨fun c => hXY _ (hx.1 c), fun c => ia_sw_mono hXY (hx.2 c)⟩
theorem ia_pre_mono {C C' : Nat → List Value → ia_H → Option Value → ia_H → Prop} {Z Z' : Option Value → ia_H → Prop} {X Y : ia_S → Prop} (hC : ∀ y as h r h', C y as h r h' → C' y as h r h') (hZ : ∀ r h, Z r h → Z' r h) (hXY : ∀ s, X s → Y s) : ∀ {o : ia_O}, ia_pre C Z X o → ia_pre C' Z' Y o
  | none, hx => hx
  | some (.inl _), hx => hXY _ hx
  | some (.inr (.inl (_, _))), hx => by
    obtain ⟨g, h1⟩ := hx
    exact ⟨g, hXY _ h1⟩
  | some (.inr (.inr (.inl (_, _, _)))), hx => by
    obtain ⟨j, g, h1⟩ := hx
    exact ⟨j, g, hXY _ h1⟩
  | some (.inr (.inr (.inr (.inl (_, _, _))))), hx => ⟨fun c => hXY _ (hx.1 c), fun c => hXY _ (hx.2 c)⟩
  | some (.inr (.inr (.inr (.inr (.inl (_, _, _, _, _, _)))))), hx => ia_sw_mono hXY hx
  | some (.inr (.inr (.inr (.inr (.inr (.inl (_, _, _, _, _, _))))))), hx => by
    obtain ⟨q, h1, h2⟩ := hx
    exact ⟨q, hC _ _ _ _ _ h1, hXY _ h2⟩
  | some (.inr (.inr (.inr (.inr (.inr (.inr (.inl (_, _)))))))), hx => hZ _ _ hx
  | some (.inr (.inr (.inr (.inr (.inr (.inr (.inr (_, _, _)))))))), hx => by
    obtain ⟨g, h1⟩ := hx
    exact ⟨g, hZ _ _ h1⟩
/-- a method's table in pieces of sixteen places -/
def ia_piece : List (List ia_E) → Nat → List ia_E
  | [], _ => []
  | c :: _, 0 => c
  | _ :: t, k + 1 => ia_piece t k
def ia_find (pc : Nat) : List ia_E → Option ia_E
  | [] => none
  | e :: t => bif Nat.beq e.1 pc then some e else ia_find pc t
def ia_step (Sh : List ia_C) (K : List (List ia_E)) (s : ia_S) : ia_O := match s with
  | (pc, ls, st, h) => match ia_find pc (ia_piece K (pc / 16)) with
    | some e => ia_f Sh e ls st h
    | none => none
/-- the method comes to its end from s, with Z there -/
def ia_Run (Sh : List ia_C) (K : List (List ia_E)) (C : Nat → List Value → ia_H → Option Value → ia_H → Prop) (Z : Option Value → ia_H → Prop) (s : ia_S) : Prop :=
  ∀ X : ia_S → Prop, (∀ t, ia_pre C Z X (ia_step Sh K t) → X t) → X s
theorem ia_Run_in {Sh : List ia_C} {K : List (List ia_E)} {C : Nat → List Value → ia_H → Option Value → ia_H → Prop} {Z : Option Value → ia_H → Prop} {s : ia_S} (h : ia_pre C Z (ia_Run Sh K C Z) (ia_step Sh K s)) : ia_Run Sh K C Z s :=
  fun X hX => hX s (ia_pre_mono (fun _ _ _ _ _ h => h) (fun _ _ h => h) (fun _ ht => ht X hX) h)
theorem ia_Run_mono {Sh : List ia_C} {K : List (List ia_E)} {C C' : Nat → List Value → ia_H → Option Value → ia_H → Prop} {Z Z' : Option Value → ia_H → Prop} (hC : ∀ y as h r h', C y as h r h' → C' y as h r h') (hZ : ∀ r h, Z r h → Z' r h) {s : ia_S} (h : ia_Run Sh K C Z s) : ia_Run Sh K C' Z' s :=
  h _ (fun _ ht => ia_Run_in (ia_pre_mono hC hZ (fun _ h => h) ht))
/-- n steps, or up to a place where cut says stop -/
def ia_wp (Sh : List ia_C) (K : List (List ia_E)) (C : Nat → List Value → ia_H → Option Value → ia_H → Prop) (Z : Option Value → ia_H → Prop) (X : ia_S → Prop) (cut : Nat → Bool) : Nat → ia_S → Prop
  | 0, s => X s
  | n + 1, s => ia_pre C Z (fun t => bif cut t.1 then X t else ia_wp Sh K C Z X cut n t) (ia_step Sh K s)
theorem ia_wp_run {Sh : List ia_C} {K : List (List ia_E)} {C : Nat → List Value → ia_H → Option Value → ia_H → Prop} {Z : Option Value → ia_H → Prop} (cut : Nat → Bool) : ∀ (n : Nat) {s : ia_S}, ia_wp Sh K C Z (ia_Run Sh K C Z) cut n s → ia_Run Sh K C Z s
  | 0, _, h => h
  | n + 1, s, h => ia_Run_in (ia_pre_mono (fun _ _ _ _ _ h => h) (fun _ _ h => h) (fun t ht => by
      cases hc : cut t.1 with
      | true => rw [hc] at ht; exact ht
      | false => rw [hc] at ht; exact ia_wp_run cut n ht) h)
/-- a walk up to the places of cut; there X, of which only 'the method comes to its end from here' is known to give it -/
theorem ia_walk {Sh : List ia_C} {K : List (List ia_E)} {C : Nat → List Value → ia_H → Option Value → ia_H → Prop} {Z : Option Value → ia_H → Prop} (cut : Nat → Bool) (n : Nat) {s : ia_S} (h : ∀ X : ia_S → Prop, (∀ t, ia_Run Sh K C Z t → X t) → ia_wp Sh K C Z X cut n s) : ia_Run Sh K C Z s :=
  ia_wp_run cut n (h _ (fun _ ht => ht))
/-- a run with Z at its end has one end -/
theorem ia_Run_ex {Sh : List ia_C} {K : List (List ia_E)} {C : Nat → List Value → ia_H → Option Value → ia_H → Prop} {Z : Option Value → ia_H → Prop} {s : ia_S} (h : ia_Run Sh K C Z s) : ∃ r h', Z r h' ∧ ia_Run Sh K C (fun r1 h1 => r1 = r ∧ h1 = h') s := by
  refine h (fun s => ∃ r h', Z r h' ∧ ia_Run Sh K C (fun r1 h1 => r1 = r ∧ h1 = h') s) ?_
  intro t ht
  suffices H : ∃ r h', Z r h' ∧ ia_pre C (fun r1 h1 => r1 = r ∧ h1 = h') (ia_Run Sh K C (fun r1 h1 => r1 = r ∧ h1 = h')) (ia_step Sh K t) by
    obtain ⟨r, h', h1, h2⟩ := H
    exact ⟨r, h', h1, ia_Run_in h2⟩
  revert ht
  generalize ia_step Sh K t = o
  intro ht
  match o, ht with
  | some (.inl _), hx => exact hx
  | some (.inr (.inl (_, _))), hx =>
    obtain ⟨g, r, h', h1, h2⟩ := hx
    exact ⟨r, h', h1, g, h2⟩
  | some (.inr (.inr (.inl (_, _, _)))), hx =>
    obtain ⟨j, g, r, h', h1, h2⟩ := hx
    exact ⟨r, h', h1, j, g, h2⟩
  | some (.inr (.inr (.inr (.inl (c, _, _))))), hx =>
    by_cases hc : c
    · obtain ⟨r, h', h1, h2⟩ := hx.1 hc
      exact ⟨r, h', h1, fun _ => h2, fun q => absurd hc q⟩
    · obtain ⟨r, h', h1, h2⟩ := hx.2 hc
      exact ⟨r, h', h1, fun q => absurd q hc, fun _ => h2⟩
  | some (.inr (.inr (.inr (.inr (.inl (x, ts, d, ls, st, hh)))))), hx =>
    have key : ∀ ts : List (Int × Nat), ia_sw (fun s => ∃ r h', Z r h' ∧ ia_Run Sh K C (fun r1 h1 => r1 = r ∧ h1 = h') s) x d ls st hh ts → ∃ r h', Z r h' ∧ ia_sw (ia_Run Sh K C (fun r1 h1 => r1 = r ∧ h1 = h')) x d ls st hh ts := by
      intro ts
      induction ts with
      | nil => exact fun h => h
      | cons q ts ih =>
        obtain ⟨k, tg⟩ := q
        intro h
        by_cases hc : x = Int32.ofInt k
        · obtain ⟨r, h', h1, h2⟩ := h.1 hc
          exact ⟨r, h', h1, fun _ => h2, fun q => absurd hc q⟩
        · obtain ⟨r, h', h1, h2⟩ := ih (h.2 hc)
          exact ⟨r, h', h1, fun q => absurd q hc, fun _ => h2⟩
    exact key ts hx
  | some (.inr (.inr (.inr (.inr (.inr (.inl (_, _, _, _, _, _))))))), hx =>
    obtain ⟨q, h0, r, h', h1, h2⟩ := hx
    exact ⟨r, h', h1, q, h0, h2⟩
  | some (.inr (.inr (.inr (.inr (.inr (.inr (.inl (_, _)))))))), hx => exact ⟨_, _, hx, rfl, rfl⟩
  | some (.inr (.inr (.inr (.inr (.inr (.inr (.inr (_, _, _)))))))), hx =>
    obtain ⟨g, h1⟩ := hx
    exact ⟨_, _, h1, g, rfl, rfl⟩
/-- the locals with which a method begins -/
def ia_args : List Value → ia_L
  | [] => []
  | .long x :: vs => some (.long x) :: none :: ia_args vs
  | .double x :: vs => some (.double x) :: none :: ia_args vs
  | v :: vs => some v :: ia_args vs
/-- a method: its class, name, bytes, locals, answer, parameters, table; its words' places (code, initialized, instance or static, selects); frames and locals below it -/
abbrev ia_M : Type := String × MethodName × ByteArray × Nat × Option FieldType × Nat × List (List ia_E) × (Nat × Nat × Nat × Nat) × (Nat × Nat)
def ia_meth : List ia_M → Nat → Option ia_M
  | [], _ => none
  | c :: _, 0 => some c
  | _ :: t, k + 1 => ia_meth t k
def ia_enter (n : Nat) (as : List Value) : ia_L := ia_args as ++ List.replicate (n - (ia_args as).length) none
/-- the method y of the list answers so (the least such relation) -/
def ia_Ev (Sh : List ia_C) (MT : List ia_M) (y : Nat) (as : List Value) (h : ia_H) (r : Option Value) (h' : ia_H) : Prop :=
  ∀ C : Nat → List Value → ia_H → Option Value → ia_H → Prop, (∀ y as h r h' (M : ia_M), ia_meth MT y = some M → (ia_args as).length ≤ M.2.2.2.1 → ia_Run Sh M.2.2.2.2.2.2.1 C (fun r1 h1 => r1 = r ∧ h1 = h') (0, ia_enter M.2.2.2.1 as, [], h) → C y as h r h') → C y as h r h'
theorem ia_Ev_in {Sh : List ia_C} {MT : List ia_M} {y : Nat} {as : List Value} {h : ia_H} {r : Option Value} {h' : ia_H} {M : ia_M} (hM : ia_meth MT y = some M) (hn : (ia_args as).length ≤ M.2.2.2.1) (hR : ia_Run Sh M.2.2.2.2.2.2.1 (ia_Ev Sh MT) (fun r1 h1 => r1 = r ∧ h1 = h') (0, ia_enter M.2.2.2.1 as, [], h)) : ia_Ev Sh MT y as h r h' :=
  fun C hC => hC y as h r h' M hM hn (ia_Run_mono (fun _ _ _ _ _ hx => hx C hC) (fun _ _ hx => hx) hR)
/-- the method y answers, with Z of its answer and the heap behind it -/
def ia_V (Sh : List ia_C) (MT : List ia_M) (y : Nat) (as : List Value) (h : ia_H) (Z : Option Value → ia_H → Prop) : Prop := ∃ r h', ia_Ev Sh MT y as h r h' ∧ Z r h'
theorem ia_V_in {Sh : List ia_C} {MT : List ia_M} {y : Nat} {as : List Value} {h : ia_H} {Z : Option Value → ia_H → Prop} {M : ia_M} (K : List (List ia_E)) (ls : ia_L) (hM : ia_meth MT y = some M) (hK : M.2.2.2.2.2.2.1 = K) (hn : (ia_args as).length ≤ M.2.2.2.1) (hl : ia_enter M.2.2.2.1 as = ls) (hR : ia_Run Sh K (ia_Ev Sh MT) Z (0, ls, [], h)) : ia_V Sh MT y as h Z := by
  subst hK; subst hl
  obtain ⟨r, h', h1, h2⟩ := ia_Run_ex hR
  exact ⟨r, h', ia_Ev_in hM hn h2, h1⟩
