section
/-! A PURE MACHINE over a fixed set of cells: what a method does, said without the JVM's heap.
Cells never come or go here and references in them never change, so the heap's picture is just its numbers:
h.1 cell place (ints, bytes, booleans), h.2 cell place (longs). A reference is the number of its cell. -/
abbrev ia_C : Type := (FieldType × Nat) ⊕ ((Nat × List (Nat ⊕ Bool)) ⊕ (String × List Nat))
abbrev ia_H : Type := (Nat → Nat → Int32) × (Nat → Nat → Int64)
abbrev ia_L : Type := List (Option Value)
/-- pc, locals, stack, heap -/
abbrev ia_S : Type := Nat × ia_L × List Value × ia_H
/-- an entry of a method's table: place, instruction, length, two numbers (target, class and slot, callee and parameters), place of its word, constant, switch -/
abbrev ia_E : Type := Nat × Instr × Nat × Nat × Nat × Nat × Value × List (Int × Nat)
/-- what an instruction does: go on; go on under a guard; go on at a place of an array; branch; switch; call; return; return under a guard -/
abbrev ia_O : Type := Option (ia_S ⊕ ((Prop × ia_S) ⊕ ((Int32 × Nat × (Nat → ia_S)) ⊕ ((Prop × ia_S × ia_S) ⊕ ((Int32 × List (Int × Nat) × Nat × ia_L × List Value × ia_H) ⊕ ((Nat × List Value × Nat × ia_L × List Value × ia_H) ⊕ ((Option Value × ia_H) ⊕ (Prop × Option Value × ia_H))))))))
abbrev ia_go (s : ia_S) : ia_O := some (.inl s)
abbrev ia_gd (g : Prop) (s : ia_S) : ia_O := some (.inr (.inl (g, s)))
abbrev ia_ix (i : Int32) (n : Nat) (s : Nat → ia_S) : ia_O := some (.inr (.inr (.inl (i, n, s))))
abbrev ia_br (c : Prop) (s t : ia_S) : ia_O := some (.inr (.inr (.inr (.inl (c, s, t)))))
abbrev ia_swo (x : Int32) (ts : List (Int × Nat)) (d : Nat) (ls : ia_L) (st : List Value) (h : ia_H) : ia_O := some (.inr (.inr (.inr (.inr (.inl (x, ts, d, ls, st, h))))))
abbrev ia_call (y : Nat) (as : List Value) (pc : Nat) (ls : ia_L) (st : List Value) (h : ia_H) : ia_O := some (.inr (.inr (.inr (.inr (.inr (.inl (y, as, pc, ls, st, h)))))))
abbrev ia_ret (r : Option Value) (h : ia_H) : ia_O := some (.inr (.inr (.inr (.inr (.inr (.inr (.inl (r, h))))))))
abbrev ia_rg (g : Prop) (r : Option Value) (h : ia_H) : ia_O := some (.inr (.inr (.inr (.inr (.inr (.inr (.inr (g, r, h))))))))
def ia_get : ia_L → Nat → Option Value
  | [], _ => none
  | v :: _, 0 => v
  | _ :: t, k + 1 => ia_get t k
def ia_set : ia_L → Nat → Option Value → ia_L
  | [], _, _ => []
  | _ :: t, 0, v => v :: t
  | w :: t, k + 1, v => w :: ia_set t k v
/-- a long or double that ends at place i is gone -/
def ia_clr (ls : ia_L) : Nat → ia_L
  | 0 => ls
  | k + 1 => match ia_get ls k with
    | some (.long _) => ia_set ls k none
    | some (.double _) => ia_set ls k none
    | _ => ls
def ia_st1 (ls : ia_L) (i : Nat) (v : Value) : ia_L := ia_set (ia_clr ls i) i (some v)
def ia_st2 (ls : ia_L) (i : Nat) (v : Value) : ia_L := ia_set (ia_set (ia_clr ls i) i (some v)) (i + 1) none
def ia_setK {α : Type} : ia_L → Nat → Option Value → (ia_L → α) → α
  | [], _, _, k => k []
  | _ :: t, 0, v, k => k (v :: t)
  | w :: t, i + 1, v, k => ia_setK t i v (fun t' => k (w :: t'))
theorem ia_setK_eq {α : Type} : ∀ (ls : ia_L) (i : Nat) (v : Option Value) (k : ia_L → α), ia_setK ls i v k = k (ia_set ls i v)
  | [], _, _, _ => rfl
  | _ :: _, 0, _, _ => rfl
  | _ :: t, i + 1, v, _ => ia_setK_eq t i v _
def ia_st1K {α : Type} (ls : ia_L) (i : Nat) (v : Value) (k : ia_L → α) : α := match i with
  | 0 => ia_setK ls 0 (some v) k
  | j + 1 => match ia_get ls j with
    | some (.long _) => ia_setK ls j none (fun l => ia_setK l (j + 1) (some v) k)
    | some (.double _) => ia_setK ls j none (fun l => ia_setK l (j + 1) (some v) k)
    | _ => ia_setK ls (j + 1) (some v) k
theorem ia_st1K_eq {α : Type} (ls : ia_L) (i : Nat) (v : Value) (k : ia_L → α) : ia_st1K ls i v k = k (ia_st1 ls i v) := by
  cases i with
  | zero => simp only [ia_st1K, ia_st1, ia_clr, ia_setK_eq]
  | succ j =>
    simp only [ia_st1K, ia_st1, ia_clr]
    split <;> simp only [ia_setK_eq]
def ia_st2K {α : Type} (ls : ia_L) (i : Nat) (v : Value) (k : ia_L → α) : α := ia_st1K ls i v (fun l => ia_setK l (i + 1) none k)
theorem ia_st2K_eq {α : Type} (ls : ia_L) (i : Nat) (v : Value) (k : ia_L → α) : ia_st2K ls i v k = k (ia_st2 ls i v) := by
  simp only [ia_st2K, ia_st1K_eq, ia_setK_eq, ia_st2, ia_st1]
def ia_uI (f : Nat → Nat → Int32) (x i : Nat) (v : Int32) : Nat → Nat → Int32 := fun y => if y = x then upd (f x) i v else f y
def ia_uL (f : Nat → Nat → Int64) (x i : Nat) (v : Int64) : Nat → Nat → Int64 := fun y => if y = x then vp_updL (f x) i v else f y
def ia_cpI (f : Nat → Nat → Int32) (x0 x1 sp dp n : Nat) : Nat → Nat → Int32 := fun y => if y = x1 then va_cpy (f x0) (f x1) sp dp n else f y
def ia_at? (Sh : List ia_C) (x : Nat) : Option ia_C := match Sh, x with
  | [], _ => none
  | c :: _, 0 => some c
  | _ :: t, k + 1 => ia_at? t k
def ia_kind : List (Nat ⊕ Bool) → Nat → Option (Nat ⊕ Bool)
  | [], _ => none
  | c :: _, 0 => some c
  | _ :: t, k + 1 => ia_kind t k
def ia_pick : List Nat → Nat → Option Nat
  | [], _ => none
  | c :: _, 0 => some c
  | _ :: t, k + 1 => ia_pick t k
/-- n values off the stack, the deepest first -/
def ia_pop : Nat → List Value → List Value → Option (List Value × List Value)
  | 0, acc, st => some (acc, st)
  | _ + 1, _, [] => none
  | n + 1, acc, v :: st => ia_pop n (v :: acc) st
def ia_f (Sh : List ia_C) (e : ia_E) (ls : ia_L) (st : List Value) (h : ia_H) : ia_O :=
  match e with
  | (pc, ins, len, a, b, _, v, ts) =>
  match ins with
  | .aload_n k => match ia_get ls k.val with
    | some (.ref x) => ia_go (pc + len, ls, .ref x :: st, h)
    | _ => none
  | .aload k => match ia_get ls k with
    | some (.ref x) => ia_go (pc + len, ls, .ref x :: st, h)
    | _ => none
  | .iload_n k => match ia_get ls k.val with
    | some (.int x) => ia_go (pc + len, ls, .int x :: st, h)
    | _ => none
  | .iload k => match ia_get ls k with
    | some (.int x) => ia_go (pc + len, ls, .int x :: st, h)
    | _ => none
  | .lload_n k => match ia_get ls k.val with
    | some (.long x) => ia_go (pc + len, ls, .long x :: st, h)
    | _ => none
  | .lload k => match ia_get ls k with
    | some (.long x) => ia_go (pc + len, ls, .long x :: st, h)
    | _ => none
  | .dload_n k => match ia_get ls k.val with
    | some (.double x) => ia_go (pc + len, ls, .double x :: st, h)
    | _ => none
  | .astore_n k => match st with
    | .ref x :: st => ia_st1K ls k.val (.ref x) (fun l => ia_go (pc + len, l, st, h))
    | _ => none
  | .astore k => match st with
    | .ref x :: st => ia_st1K ls k (.ref x) (fun l => ia_go (pc + len, l, st, h))
    | _ => none
  | .istore_n k => match st with
    | .int x :: st => ia_st1K ls k.val (.int x) (fun l => ia_go (pc + len, l, st, h))
    | _ => none
  | .istore k => match st with
    | .int x :: st => ia_st1K ls k (.int x) (fun l => ia_go (pc + len, l, st, h))
    | _ => none
  | .lstore_n k => match st with
    | .long x :: st => ia_st2K ls k.val (.long x) (fun l => ia_go (pc + len, l, st, h))
    | _ => none
  | .lstore k => match st with
    | .long x :: st => ia_st2K ls k (.long x) (fun l => ia_go (pc + len, l, st, h))
    | _ => none
  | .dstore_n k => match st with
    | .double x :: st => ia_st2K ls k.val (.double x) (fun l => ia_go (pc + len, l, st, h))
    | _ => none
  | .iinc k _ => match ia_get ls k with
    | some (.int x) => match v with
      | .int n => ia_st1K ls k (.int (x + n)) (fun l => ia_go (pc + len, l, st, h))
      | _ => none
    | _ => none
  | .iconst _ => match v with
    | .int x => ia_go (pc + len, ls, .int x :: st, h)
    | _ => none
  | .bipush _ => match v with
    | .int x => ia_go (pc + len, ls, .int x :: st, h)
    | _ => none
  | .sipush _ => match v with
    | .int x => ia_go (pc + len, ls, .int x :: st, h)
    | _ => none
  | .lconst _ => match v with
    | .long x => ia_go (pc + len, ls, .long x :: st, h)
    | _ => none
  | .dconst n => match n.val with
    | 0 => ia_go (pc + len, ls, .double FP.dconst0 :: st, h)
    | _ => none
  | .ldc2_w _ => match v with
    | .long x => ia_go (pc + len, ls, .long x :: st, h)
    | .double x => ia_go (pc + len, ls, .double x :: st, h)
    | _ => none
  | .iadd => match st with
    | .int y :: .int x :: st => ia_go (pc + len, ls, .int (x + y) :: st, h)
    | _ => none
  | .isub => match st with
    | .int y :: .int x :: st => ia_go (pc + len, ls, .int (x - y) :: st, h)
    | _ => none
  | .imul => match st with
    | .int y :: .int x :: st => ia_go (pc + len, ls, .int (x * y) :: st, h)
    | _ => none
  | .irem => match st with
    | .int y :: .int x :: st => ia_gd (¬ y = 0) (pc + len, ls, .int (x - x / y * y) :: st, h)
    | _ => none
  | .iand => match st with
    | .int y :: .int x :: st => ia_go (pc + len, ls, .int (x &&& y) :: st, h)
    | _ => none
  | .ixor => match st with
    | .int y :: .int x :: st => ia_go (pc + len, ls, .int (x ^^^ y) :: st, h)
    | _ => none
  | .ishr => match st with
    | .int y :: .int x :: st => ia_go (pc + len, ls, .int (x >>> (y &&& 31)) :: st, h)
    | _ => none
  | .ladd => match st with
    | .long y :: .long x :: st => ia_go (pc + len, ls, .long (x + y) :: st, h)
    | _ => none
  | .lsub => match st with
    | .long y :: .long x :: st => ia_go (pc + len, ls, .long (x - y) :: st, h)
    | _ => none
  | .lmul => match st with
    | .long y :: .long x :: st => ia_go (pc + len, ls, .long (x * y) :: st, h)
    | _ => none
  | .land => match st with
    | .long y :: .long x :: st => ia_go (pc + len, ls, .long (x &&& y) :: st, h)
    | _ => none
  | .lor => match st with
    | .long y :: .long x :: st => ia_go (pc + len, ls, .long (x ||| y) :: st, h)
    | _ => none
  | .lneg => match st with
    | .long x :: st => ia_go (pc + len, ls, .long (-x) :: st, h)
    | _ => none
  | .lshl => match st with
    | .int y :: .long x :: st => ia_go (pc + len, ls, .long (x <<< (y.toInt64 &&& 63)) :: st, h)
    | _ => none
  | .lcmp => match st with
    | .long y :: .long x :: st => ia_go (pc + len, ls, .int (lg_cmp x y) :: st, h)
    | _ => none
  | .dcmp op => match st with
    | .double y :: .double x :: st => ia_go (pc + len, ls, .int (Op.cmpValue (FP.dcmp x y) op) :: st, h)
    | _ => none
  | .dadd => match st with
    | .double y :: .double x :: st => ia_gd (vf_n64 (FP.dadd x y)) (pc + len, ls, .double (FP.dadd x y) :: st, h)
    | _ => none
  | .dmul => match st with
    | .double y :: .double x :: st => ia_gd (vf_n64 (FP.dmul x y)) (pc + len, ls, .double (FP.dmul x y) :: st, h)
    | _ => none
  | .ddiv => match st with
    | .double y :: .double x :: st => ia_gd (vf_n64 (FP.ddiv x y)) (pc + len, ls, .double (FP.ddiv x y) :: st, h)
    | _ => none
  | .dneg => match st with
    | .double x :: st => ia_go (pc + len, ls, .double (FP.dneg x) :: st, h)
    | _ => none
  | .i2l => match st with
    | .int x :: st => ia_go (pc + len, ls, .long x.toInt64 :: st, h)
    | _ => none
  | .i2b => match st with
    | .int x :: st => ia_go (pc + len, ls, .int x.toInt8.toInt32 :: st, h)
    | _ => none
  | .i2d => match st with
    | .int x :: st => ia_go (pc + len, ls, .double (FP.i2d x) :: st, h)
    | _ => none
  | .l2d => match st with
    | .long x :: st => ia_go (pc + len, ls, .double (FP.l2d x) :: st, h)
    | _ => none
  | .d2l => match st with
    | .double x :: st => ia_go (pc + len, ls, .long (FP.d2l x) :: st, h)
    | _ => none
  | .dup => match st with
    | .int x :: st => ia_go (pc + len, ls, .int x :: .int x :: st, h)
    | .ref x :: st => ia_go (pc + len, ls, .ref x :: .ref x :: st, h)
    | _ => none
  | .dup2 => match st with
    | .int y :: .int x :: st => ia_go (pc + len, ls, .int y :: .int x :: .int y :: .int x :: st, h)
    | .int y :: .ref x :: st => ia_go (pc + len, ls, .int y :: .ref x :: .int y :: .ref x :: st, h)
    | _ => none
  | .goto _ => ia_go (a, ls, st, h)
  | .if_icmp c _ => match st with
    | .int y :: .int x :: st => match c with
      | .eq => ia_br (x = y) (a, ls, st, h) (pc + len, ls, st, h)
      | .ne => ia_br (x = y) (pc + len, ls, st, h) (a, ls, st, h)
      | .lt => ia_br (x < y) (a, ls, st, h) (pc + len, ls, st, h)
      | .ge => ia_br (x < y) (pc + len, ls, st, h) (a, ls, st, h)
      | .gt => ia_br (y < x) (a, ls, st, h) (pc + len, ls, st, h)
      | .le => ia_br (y < x) (pc + len, ls, st, h) (a, ls, st, h)
    | _ => none
  | .ifCond c _ => match st with
    | .int x :: st => match c with
      | .eq => ia_br (x = 0) (a, ls, st, h) (pc + len, ls, st, h)
      | .ne => ia_br (x = 0) (pc + len, ls, st, h) (a, ls, st, h)
      | .lt => ia_br (x < 0) (a, ls, st, h) (pc + len, ls, st, h)
      | .ge => ia_br (x < 0) (pc + len, ls, st, h) (a, ls, st, h)
      | .gt => ia_br (0 < x) (a, ls, st, h) (pc + len, ls, st, h)
      | .le => ia_br (0 < x) (pc + len, ls, st, h) (a, ls, st, h)
    | _ => none
  | .tableswitch _ _ _ _ => match st with
    | .int x :: st => ia_swo x ts a ls st h
    | _ => none
  | .lookupswitch _ _ => match st with
    | .int x :: st => ia_swo x ts a ls st h
    | _ => none
  | .getfield _ => match st with
    | .ref x :: st => match ia_at? Sh x with
      | some (.inr (.inl (ci, ks))) => bif Nat.beq ci a then (match ia_kind ks b with
        | some (.inl y) => ia_go (pc + len, ls, .ref y :: st, h)
        | some (.inr false) => ia_go (pc + len, ls, .int (h.1 x b) :: st, h)
        | some (.inr true) => ia_go (pc + len, ls, .long (h.2 x b) :: st, h)
        | none => none) else none
      | _ => none
    | _ => none
  | .putfield _ => match st with
    | .int z :: .ref x :: st => match ia_at? Sh x with
      | some (.inr (.inl (ci, ks))) => bif Nat.beq ci a then (match ia_kind ks b with
        | some (.inr false) => ia_go (pc + len, ls, st, (ia_uI h.1 x b z, h.2))
        | _ => none) else none
      | _ => none
    | .long z :: .ref x :: st => match ia_at? Sh x with
      | some (.inr (.inl (ci, ks))) => bif Nat.beq ci a then (match ia_kind ks b with
        | some (.inr true) => ia_go (pc + len, ls, st, (h.1, ia_uL h.2 x b z))
        | _ => none) else none
      | _ => none
    | _ => none
  | .iaload => match st with
    | .int i :: .ref x :: st => match ia_at? Sh x with
      | some (.inl (.int, n)) => ia_ix i n (fun j => (pc + len, ls, .int (h.1 x j) :: st, h))
      | _ => none
    | _ => none
  | .baload => match st with
    | .int i :: .ref x :: st => match ia_at? Sh x with
      | some (.inl (.byte, n)) => ia_ix i n (fun j => (pc + len, ls, .int (h.1 x j) :: st, h))
      | some (.inl (.boolean, n)) => ia_ix i n (fun j => (pc + len, ls, .int (h.1 x j) :: st, h))
      | _ => none
    | _ => none
  | .laload => match st with
    | .int i :: .ref x :: st => match ia_at? Sh x with
      | some (.inl (.long, n)) => ia_ix i n (fun j => (pc + len, ls, .long (h.2 x j) :: st, h))
      | _ => none
    | _ => none
  | .iastore => match st with
    | .int z :: .int i :: .ref x :: st => match ia_at? Sh x with
      | some (.inl (.int, n)) => ia_ix i n (fun j => (pc + len, ls, st, (ia_uI h.1 x j z, h.2)))
      | _ => none
    | _ => none
  | .bastore => match st with
    | .int z :: .int i :: .ref x :: st => match ia_at? Sh x with
      | some (.inl (.byte, n)) => ia_ix i n (fun j => (pc + len, ls, st, (ia_uI h.1 x j (vp_nar .byte z), h.2)))
      | some (.inl (.boolean, n)) => ia_ix i n (fun j => (pc + len, ls, st, (ia_uI h.1 x j (vp_nar .boolean z), h.2)))
      | _ => none
    | _ => none
  | .lastore => match st with
    | .long z :: .int i :: .ref x :: st => match ia_at? Sh x with
      | some (.inl (.long, n)) => ia_ix i n (fun j => (pc + len, ls, st, (h.1, ia_uL h.2 x j z)))
      | _ => none
    | _ => none
  | .aaload => match st with
    | .int i :: .ref x :: st => match ia_at? Sh x with
      | some (.inr (.inr (_, l))) => ia_ix i l.length (fun j => (pc + len, ls, .ref ((ia_pick l j).getD 0) :: st, h))
      | _ => none
    | _ => none
  | .arraylength => match st with
    | .ref x :: st => match ia_at? Sh x with
      | some (.inl (_, n)) => ia_go (pc + len, ls, .int (Int32.ofNat n) :: st, h)
      | some (.inr (.inr (_, l))) => ia_go (pc + len, ls, .int (Int32.ofNat l.length) :: st, h)
      | _ => none
    | _ => none
  | .invokevirtual _ => match ia_pop b [] st with
    | some (as, .ref x :: st) => match ia_at? Sh x with
      | some (.inr (.inl (ci, _))) => match v with
        | .ref cj => bif Nat.beq ci cj then (bif Nat.ble st.length 4 then ia_call a (.ref x :: as) (pc + len) ls st h else none) else none
        | _ => none
      | _ => none
    | _ => none
  | .invokestatic _ => match a with
    | 0 => match st with
      | .double x :: st => bif Nat.ble st.length 4 then ia_go (pc + len, ls, .long x.toInt64 :: st, h) else none
      | _ => none
    | 1 => match st with
      | .int n :: .int dp :: .ref y :: .int sp :: .ref x :: st => match ia_at? Sh x with
        | some (.inl (.int, n0)) => match ia_at? Sh y with
          | some (.inl (.int, n1)) => bif Nat.ble st.length 4 then ia_gd (¬ sp < 0 ∧ ¬ dp < 0 ∧ ¬ n < 0 ∧ sp.toNatClampNeg + n.toNatClampNeg ≤ n0 ∧ dp.toNatClampNeg + n.toNatClampNeg ≤ n1) (pc + len, ls, st, (ia_cpI h.1 x y sp.toNatClampNeg dp.toNatClampNeg n.toNatClampNeg, h.2)) else none
          | _ => none
        | some (.inl (.byte, n0)) => match ia_at? Sh y with
          | some (.inl (.byte, n1)) => bif Nat.ble st.length 4 then ia_gd (¬ sp < 0 ∧ ¬ dp < 0 ∧ ¬ n < 0 ∧ sp.toNatClampNeg + n.toNatClampNeg ≤ n0 ∧ dp.toNatClampNeg + n.toNatClampNeg ≤ n1 ∧ ∀ i, i < n.toNatClampNeg → fits .byte (.int (h.1 x (sp.toNatClampNeg + i))) = true) (pc + len, ls, st, (ia_cpI h.1 x y sp.toNatClampNeg dp.toNatClampNeg n.toNatClampNeg, h.2)) else none
          | _ => none
        | _ => none
      | _ => none
    | 2 => match st with
      | .long y :: .long x :: st => bif Nat.ble st.length 4 then ia_go (pc + len, ls, .long (if y < x then x else y) :: st, h) else none
      | _ => none
    | 3 => match st with
      | .long y :: .long x :: st => bif Nat.ble st.length 4 then ia_go (pc + len, ls, .long (if y < x then y else x) :: st, h) else none
      | _ => none
    | 4 => match st with
      | .long x :: st => bif Nat.ble st.length 4 then ia_go (pc + len, ls, .long (if 0 < x then x else -x) :: st, h) else none
      | _ => none
    | 5 => match st with
      | .int y :: .int x :: st => bif Nat.ble st.length 4 then ia_go (pc + len, ls, .int (if y < x then y else x) :: st, h) else none
      | _ => none
    | a + 6 => match ia_pop b [] st with
      | some (as, st) => bif Nat.ble st.length 4 then ia_call a as (pc + len) ls st h else none
      | none => none
  | .ireturn => match st with
    | [.int x] => match a with
      | 0 => ia_ret (some (.int x)) h
      | _ => ia_rg (x = 0 ∨ x = 1) (some (.int x)) h
    | _ => none
  | .lreturn => match st with
    | [.long x] => ia_ret (some (.long x)) h
    | _ => none
  | .dreturn => match st with
    | [.double x] => ia_ret (some (.double x)) h
    | _ => none
  | .return_ => match st with
    | [] => ia_ret none h
    | _ => none
  | _ => none
/-- a switch: the cases one after the other -/
def ia_sw (X : ia_S → Prop) (x : Int32) (d : Nat) (ls : ia_L) (st : List Value) (h : ia_H) : List (Int × Nat) → Prop
  | [] => X (d, ls, st, h)
  | (k, t) :: ts => (x = Int32.ofInt k → X (t, ls, st, h)) ∧ (¬ x = Int32.ofInt k → ia_sw X x d ls st h ts)
/-- one step: what must hold so that X holds behind it; C: what calls do; Z: what must hold at the end -/
def ia_pre (C : Nat → List Value → ia_H → Option Value → ia_H → Prop) (Z : Option Value → ia_H → Prop) (X : ia_S → Prop) : ia_O → Prop
  | none => False
  | some (.inl s) => X s
  | some (.inr (.inl (g, s))) => ∃ _ : g, X s
  | some (.inr (.inr (.inl (i, n, s)))) => ∃ j : Nat, (i = nI j ∧ j < n) ∧ X (s j)
  | some (.inr (.inr (.inr (.inl (c, s, t))))) => (c → X s) ∧ (¬ c → X t)
  | some (.inr (.inr (.inr (.inr (.inl (x, ts, d, ls, st, h)))))) => ia_sw X x d ls st h ts
  | some (.inr (.inr (.inr (.inr (.inr (.inl (y, as, pc, ls, st, h))))))) => ∃ q : Option Value × ia_H, C y as h q.1 q.2 ∧ X (pc, ls, q.1.toList ++ st, q.2)
  | some (.inr (.inr (.inr (.inr (.inr (.inr (.inl (r, h)))))))) => Z r h
  | some (.inr (.inr (.inr (.inr (.inr (.inr (.inr (g, r, h)))))))) => ∃ _ : g, Z r h
theorem ia_sw_mono {X Y : ia_S → Prop} (hXY : ∀ s, X s → Y s) {x : Int32} {d : Nat} {ls : ia_L} {st : List Value} {h : ia_H} : ∀ {ts : List (Int × Nat)}, ia_sw X x d ls st h ts → ia_sw Y x d ls st h ts
  | [], hx => hXY _ hx
  | (_, _) :: _, hx => ⟨fun c => hXY _ (hx.1 c), fun c => ia_sw_mono hXY (hx.2 c)⟩
theorem ia_pre_mono {C C' : Nat → List Value → ia_H → Option Value → ia_H → Prop} {Z Z' : Option Value → ia_H → Prop} {X Y : ia_S → Prop} (hC : ∀ y as h r h', C y as h r h' → C' y as h r h') (hZ : ∀ r h, Z r h → Z' r h) (hXY : ∀ s, X s → Y s) : ∀ {o : ia_O}, ia_pre C Z X o → ia_pre C' Z' Y o
  | none, hx => hx
  | some (.inl _), hx => hXY _ hx
  | some (.inr (.inl (_, _))), hx => by
    obtain ⟨g, h1⟩ := hx
    exact ⟨g, hXY _ h1⟩
  | some (.inr (.inr (.inl (_, _, _)))), hx => by
    obtain ⟨j, g, h1⟩ := hx
    exact ⟨j, g, hXY _ h1⟩
  | some (.inr (.inr (.inr (.inl (_, _, _))))), hx => ⟨fun c => hXY _ (hx.1 c), fun c => hXY _ (hx.2 c)⟩
  | some (.inr (.inr (.inr (.inr (.inl (_, _, _, _, _, _)))))), hx => ia_sw_mono hXY hx
  | some (.inr (.inr (.inr (.inr (.inr (.inl (_, _, _, _, _, _))))))), hx => by
    obtain ⟨q, h1, h2⟩ := hx
    exact ⟨q, hC _ _ _ _ _ h1, hXY _ h2⟩
  | some (.inr (.inr (.inr (.inr (.inr (.inr (.inl (_, _)))))))), hx => hZ _ _ hx
  | some (.inr (.inr (.inr (.inr (.inr (.inr (.inr (_, _, _)))))))), hx => by
    obtain ⟨g, h1⟩ := hx
    exact ⟨g, hZ _ _ h1⟩
/-- a method's table in pieces of sixteen places -/
def ia_piece : List (List ia_E) → Nat → List ia_E
  | [], _ => []
  | c :: _, 0 => c
  | _ :: t, k + 1 => ia_piece t k
def ia_find (pc : Nat) : List ia_E → Option ia_E
  | [] => none
  | e :: t => bif Nat.beq e.1 pc then some e else ia_find pc t
def ia_step (Sh : List ia_C) (K : List (List ia_E)) (s : ia_S) : ia_O := match s with
  | (pc, ls, st, h) => match ia_find pc (ia_piece K (pc / 16)) with
    | some e => ia_f Sh e ls st h
    | none => none
/-- the method comes to its end from s, with Z there -/
def ia_Run (Sh : List ia_C) (K : List (List ia_E)) (C : Nat → List Value → ia_H → Option Value → ia_H → Prop) (Z : Option Value → ia_H → Prop) (s : ia_S) : Prop :=
  ∀ X : ia_S → Prop, (∀ t, ia_pre C Z X (ia_step Sh K t) → X t) → X s
theorem ia_Run_in {Sh : List ia_C} {K : List (List ia_E)} {C : Nat → List Value → ia_H → Option Value → ia_H → Prop} {Z : Option Value → ia_H → Prop} {s : ia_S} (h : ia_pre C Z (ia_Run Sh K C Z) (ia_step Sh K s)) : ia_Run Sh K C Z s :=
  fun X hX => hX s (ia_pre_mono (fun _ _ _ _ _ h => h) (fun _ _ h => h) (fun _ ht => ht X hX) h)
theorem ia_Run_mono {Sh : List ia_C} {K : List (List ia_E)} {C C' : Nat → List Value → ia_H → Option Value → ia_H → Prop} {Z Z' : Option Value → ia_H → Prop} (hC : ∀ y as h r h', C y as h r h' → C' y as h r h') (hZ : ∀ r h, Z r h → Z' r h) {s : ia_S} (h : ia_Run Sh K C Z s) : ia_Run Sh K C' Z' s :=
  h _ (fun _ ht => ia_Run_in (ia_pre_mono hC hZ (fun _ h => h) ht))
/-- n steps, or up to a place where cut says stop -/
def ia_wp (Sh : List ia_C) (K : List (List ia_E)) (C : Nat → List Value → ia_H → Option Value → ia_H → Prop) (Z : Option Value → ia_H → Prop) (X : ia_S → Prop) (cut : Nat → Bool) : Nat → ia_S → Prop
  | 0, s => X s
  | n + 1, s => ia_pre C Z (fun t => bif cut t.1 then X t else ia_wp Sh K C Z X cut n t) (ia_step Sh K s)
theorem ia_wp_run {Sh : List ia_C} {K : List (List ia_E)} {C : Nat → List Value → ia_H → Option Value → ia_H → Prop} {Z : Option Value → ia_H → Prop} (cut : Nat → Bool) : ∀ (n : Nat) {s : ia_S}, ia_wp Sh K C Z (ia_Run Sh K C Z) cut n s → ia_Run Sh K C Z s
  | 0, _, h => h
  | n + 1, s, h => ia_Run_in (ia_pre_mono (fun _ _ _ _ _ h => h) (fun _ _ h => h) (fun t ht => by
      cases hc : cut t.1 with
      | true => rw [hc] at ht; exact ht
      | false => rw [hc] at ht; exact ia_wp_run cut n ht) h)
/-- a walk up to the places of cut; there X, of which only 'the method comes to its end from here' is known to give it -/
theorem ia_walk {Sh : List ia_C} {K : List (List ia_E)} {C : Nat → List Value → ia_H → Option Value → ia_H → Prop} {Z : Option Value → ia_H → Prop} (cut : Nat → Bool) (n : Nat) {s : ia_S} (h : ∀ X : ia_S → Prop, (∀ t, ia_Run Sh K C Z t → X t) → ia_wp Sh K C Z X cut n s) : ia_Run Sh K C Z s :=
  ia_wp_run cut n (h _ (fun _ ht => ht))
/-- a run with Z at its end has one end -/
theorem ia_Run_ex {Sh : List ia_C} {K : List (List ia_E)} {C : Nat → List Value → ia_H → Option Value → ia_H → Prop} {Z : Option Value → ia_H → Prop} {s : ia_S} (h : ia_Run Sh K C Z s) : ∃ r h', Z r h' ∧ ia_Run Sh K C (fun r1 h1 => r1 = r ∧ h1 = h') s := by
  refine h (fun s => ∃ r h', Z r h' ∧ ia_Run Sh K C (fun r1 h1 => r1 = r ∧ h1 = h') s) ?_
  intro t ht
  suffices H : ∃ r h', Z r h' ∧ ia_pre C (fun r1 h1 => r1 = r ∧ h1 = h') (ia_Run Sh K C (fun r1 h1 => r1 = r ∧ h1 = h')) (ia_step Sh K t) by
    obtain ⟨r, h', h1, h2⟩ := H
    exact ⟨r, h', h1, ia_Run_in h2⟩
  revert ht
  generalize ia_step Sh K t = o
  intro ht
  match o, ht with
  | some (.inl _), hx => exact hx
  | some (.inr (.inl (_, _))), hx =>
    obtain ⟨g, r, h', h1, h2⟩ := hx
    exact ⟨r, h', h1, g, h2⟩
  | some (.inr (.inr (.inl (_, _, _)))), hx =>
    obtain ⟨j, g, r, h', h1, h2⟩ := hx
    exact ⟨r, h', h1, j, g, h2⟩
  | some (.inr (.inr (.inr (.inl (c, _, _))))), hx =>
    by_cases hc : c
    · obtain ⟨r, h', h1, h2⟩ := hx.1 hc
      exact ⟨r, h', h1, fun _ => h2, fun q => absurd hc q⟩
    · obtain ⟨r, h', h1, h2⟩ := hx.2 hc
      exact ⟨r, h', h1, fun q => absurd q hc, fun _ => h2⟩
  | some (.inr (.inr (.inr (.inr (.inl (x, ts, d, ls, st, hh)))))), hx =>
    have key : ∀ ts : List (Int × Nat), ia_sw (fun s => ∃ r h', Z r h' ∧ ia_Run Sh K C (fun r1 h1 => r1 = r ∧ h1 = h') s) x d ls st hh ts → ∃ r h', Z r h' ∧ ia_sw (ia_Run Sh K C (fun r1 h1 => r1 = r ∧ h1 = h')) x d ls st hh ts := by
      intro ts
      induction ts with
      | nil => exact fun h => h
      | cons q ts ih =>
        obtain ⟨k, tg⟩ := q
        intro h
        by_cases hc : x = Int32.ofInt k
        · obtain ⟨r, h', h1, h2⟩ := h.1 hc
          exact ⟨r, h', h1, fun _ => h2, fun q => absurd hc q⟩
        · obtain ⟨r, h', h1, h2⟩ := ih (h.2 hc)
          exact ⟨r, h', h1, fun q => absurd q hc, fun _ => h2⟩
    exact key ts hx
  | some (.inr (.inr (.inr (.inr (.inr (.inl (_, _, _, _, _, _))))))), hx =>
    obtain ⟨q, h0, r, h', h1, h2⟩ := hx
    exact ⟨r, h', h1, q, h0, h2⟩
  | some (.inr (.inr (.inr (.inr (.inr (.inr (.inl (_, _)))))))), hx => exact ⟨_, _, hx, rfl, rfl⟩
  | some (.inr (.inr (.inr (.inr (.inr (.inr (.inr (_, _, _)))))))), hx =>
    obtain ⟨g, h1⟩ := hx
    exact ⟨_, _, h1, g, rfl, rfl⟩
/-- the locals with which a method begins -/
def ia_args : List Value → ia_L
  | [] => []
  | .long x :: vs => some (.long x) :: none :: ia_args vs
  | .double x :: vs => some (.double x) :: none :: ia_args vs
  | v :: vs => some v :: ia_args vs
/-- a method: its class, name, bytes, locals, answer, parameters, table; its words' places (code, initialized, instance or static, selects); frames and locals below it -/
abbrev ia_M : Type := String × MethodName × ByteArray × Nat × Option FieldType × Nat × List (List ia_E) × (Nat × Nat × Nat × Nat) × (Nat × Nat)
def ia_meth : List ia_M → Nat → Option ia_M
  | [], _ => none
  | c :: _, 0 => some c
  | _ :: t, k + 1 => ia_meth t k
def ia_enter (n : Nat) (as : List Value) : ia_L := ia_args as ++ List.replicate (n - (ia_args as).length) none
/-- the method y of the list answers so (the least such relation) -/
def ia_Ev (Sh : List ia_C) (MT : List ia_M) (y : Nat) (as : List Value) (h : ia_H) (r : Option Value) (h' : ia_H) : Prop :=
  ∀ C : Nat → List Value → ia_H → Option Value → ia_H → Prop, (∀ y as h r h' (M : ia_M), ia_meth MT y = some M → (ia_args as).length ≤ M.2.2.2.1 → ia_Run Sh M.2.2.2.2.2.2.1 C (fun r1 h1 => r1 = r ∧ h1 = h') (0, ia_enter M.2.2.2.1 as, [], h) → C y as h r h') → C y as h r h'
theorem ia_Ev_in {Sh : List ia_C} {MT : List ia_M} {y : Nat} {as : List Value} {h : ia_H} {r : Option Value} {h' : ia_H} {M : ia_M} (hM : ia_meth MT y = some M) (hn : (ia_args as).length ≤ M.2.2.2.1) (hR : ia_Run Sh M.2.2.2.2.2.2.1 (ia_Ev Sh MT) (fun r1 h1 => r1 = r ∧ h1 = h') (0, ia_enter M.2.2.2.1 as, [], h)) : ia_Ev Sh MT y as h r h' :=
  fun C hC => hC y as h r h' M hM hn (ia_Run_mono (fun _ _ _ _ _ hx => hx C hC) (fun _ _ hx => hx) hR)
/-- the method y answers, with Z of its answer and the heap behind it -/
def ia_V (Sh : List ia_C) (MT : List ia_M) (y : Nat) (as : List Value) (h : ia_H) (Z : Option Value → ia_H → Prop) : Prop := ∃ r h', ia_Ev Sh MT y as h r h' ∧ Z r h'
theorem ia_V_in {Sh : List ia_C} {MT : List ia_M} {y : Nat} {as : List Value} {h : ia_H} {Z : Option Value → ia_H → Prop} {M : ia_M} (K : List (List ia_E)) (ls : ia_L) (hM : ia_meth MT y = some M) (hK : M.2.2.2.2.2.2.1 = K) (hn : (ia_args as).length ≤ M.2.2.2.1) (hl : ia_enter M.2.2.2.1 as = ls) (hR : ia_Run Sh K (ia_Ev Sh MT) Z (0, ls, [], h)) : ia_V Sh MT y as h Z := by
  subst hK; subst hl
  obtain ⟨r, h', h1, h2⟩ := ia_Run_ex hR
  exact ⟨r, h', ia_Ev_in hM hn h2, h1⟩
end
section
/-! THE PURE MACHINE IS THE JVM'S: the cells' picture, and a row for each instruction -/
def ia_v (ad : Nat → Nat) : Value → Value
  | .ref x => .ref (ad x)
  | v => v
def ia_slot (ad : Nat → Nat) (h : ia_H) (x j : Nat) : Nat ⊕ Bool → Value
  | .inl y => .ref (ad y)
  | .inr false => .int (h.1 x j)
  | .inr true => .long (h.2 x j)
def ia_slots (ad : Nat → Nat) (h : ia_H) (x : Nat) : Nat → List (Nat ⊕ Bool) → List Value
  | _, [] => []
  | j, k :: ks => ia_slot ad h x j k :: ia_slots ad h x (j + 1) ks
def ia_cell (ad : Nat → Nat) (ca : Nat → ClassId) (h : ia_H) (x : Nat) : ia_C → va_E
  | .inl (.long, n) => .inl (ca x, n, .inr (.inl (h.2 x)))
  | .inl (_, n) => .inl (ca x, n, .inl (h.1 x))
  | .inr (.inl (ci, ks)) => .inr (ci, ia_slots ad h x 0 ks)
  | .inr (.inr (_, l)) => .inl (ca x, l.length, .inr (.inr (.inr (.inr (fun j => (ia_pick l j).map ad)))))
def ia_w (ad : Nat → Nat) (ca : Nat → ClassId) (h : ia_H) : Nat → List ia_C → va_W
  | _, [] => []
  | x, c :: cs => (ad x, ia_cell ad ca h x c) :: ia_w ad ca h (x + 1) cs
theorem ia_w_get (ad : Nat → Nat) (ca : Nat → ClassId) (h : ia_H) : ∀ (Sh : List ia_C) (x0 x : Nat), (ia_w ad ca h x0 Sh)[x]? = (ia_at? Sh x).map (fun c => (ad (x0 + x), ia_cell ad ca h (x0 + x) c))
  | [], _, _ => by simp [ia_w, ia_at?]
  | c :: cs, x0, 0 => by simp [ia_w, ia_at?]
  | c :: cs, x0, x + 1 => by
    rw [ia_w, List.getElem?_cons_succ, ia_w_get ad ca h cs (x0 + 1) x]
    simp only [ia_at?]
    rw [show x0 + 1 + x = x0 + (x + 1) by omega]
theorem ia_w_at {ad : Nat → Nat} {ca : Nat → ClassId} {h : ia_H} {Sh : List ia_C} {x : Nat} {c : ia_C} (hc : ia_at? Sh x = some c) : (ia_w ad ca h 0 Sh)[x]? = some (ad x, ia_cell ad ca h x c) := by
  rw [ia_w_get, hc, Nat.zero_add]
  rfl
theorem ia_slots_congr {ad : Nat → Nat} {h h' : ia_H} {x : Nat} (h1 : h'.1 x = h.1 x) (h2 : h'.2 x = h.2 x) : ∀ (ks : List (Nat ⊕ Bool)) (j : Nat), ia_slots ad h' x j ks = ia_slots ad h x j ks
  | [], _ => rfl
  | k :: ks, j => by
    rw [ia_slots, ia_slots, ia_slots_congr h1 h2 ks (j + 1)]
    rcases k with y | b
    · rfl
    · cases b
      · simp only [ia_slot, h1]
      · simp only [ia_slot, h2]
theorem ia_cell_congr {ad : Nat → Nat} {ca : Nat → ClassId} {h h' : ia_H} {x : Nat} (h1 : h'.1 x = h.1 x) (h2 : h'.2 x = h.2 x) (c : ia_C) : ia_cell ad ca h' x c = ia_cell ad ca h x c := by
  rcases c with ⟨ty, n⟩ | ⟨ci, ks⟩ | ⟨C, l⟩
  · cases ty <;> simp only [ia_cell, h1, h2]
  · simp only [ia_cell, ia_slots_congr h1 h2]
  · rfl
theorem ia_w_set {ad : Nat → Nat} {ca : Nat → ClassId} {h h' : ia_H} {Sh : List ia_C} {x : Nat} {c : ia_C} (hc : ia_at? Sh x = some c) (h1 : ∀ y, y ≠ x → h'.1 y = h.1 y) (h2 : ∀ y, y ≠ x → h'.2 y = h.2 y) {v : va_E} (hv : v = ia_cell ad ca h' x c) : (ia_w ad ca h 0 Sh).set x (ad x, v) = ia_w ad ca h' 0 Sh := by
  subst hv
  apply List.ext_getElem?
  intro i
  rw [List.getElem?_set, ia_w_get, ia_w_get]
  by_cases hi : x = i
  · subst hi
    have hlt : x < (ia_w ad ca h 0 Sh).length := (List.getElem?_eq_some_iff.mp (ia_w_at (ad := ad) (ca := ca) (h := h) hc)).1
    rw [if_pos rfl, if_pos hlt, hc, Nat.zero_add]
    rfl
  · rw [if_neg hi, Nat.zero_add]
    cases ia_at? Sh i with
    | none => rfl
    | some c2 => simp only [Option.map_some, ia_cell_congr (h1 i (fun q => hi q.symm)) (h2 i (fun q => hi q.symm))]
theorem ia_D_congr {A : Nat → Prop} {ad : Nat → Nat} {ca : Nat → ClassId} {h h' : ia_H} {Sh : List ia_C} (hD : va_D A (ia_w ad ca h 0 Sh)) : va_D A (ia_w ad ca h' 0 Sh) := by
  have key : ∀ (k : Nat) (q : Nat × va_E), (ia_w ad ca h' 0 Sh)[k]? = some q → ∃ q' : Nat × va_E, (ia_w ad ca h 0 Sh)[k]? = some q' ∧ q'.1 = q.1 := by
    intro k q hq
    rw [ia_w_get] at hq
    rw [ia_w_get]
    cases hc : ia_at? Sh k with
    | none => rw [hc] at hq; cases hq
    | some c => rw [hc] at hq; cases hq; exact ⟨_, rfl, rfl⟩
  refine ⟨fun i j p q hi hj hpq => ?_, fun k q hk => ?_⟩
  · obtain ⟨p', a1, a2⟩ := key i p hi
    obtain ⟨q', b1, b2⟩ := key j q hj
    exact hD.1 i j p' q' a1 b1 (by rw [a2, b2]; exact hpq)
  · obtain ⟨q', b1, b2⟩ := key k q hk
    rw [← b2]
    exact hD.2 k q' b1
theorem ia_A_congr {ad : Nat → Nat} {ca : Nat → ClassId} {h h' : ia_H} {Sh : List ia_C} {sz q : Nat} (hA : va_A (ia_w ad ca h 0 Sh) sz q) : va_A (ia_w ad ca h' 0 Sh) sz q := by
  rcases hA with ⟨k, e, hk⟩ | hq
  · rw [ia_w_get] at hk
    cases hc : ia_at? Sh k with
    | none => rw [hc] at hk; cases hk
    | some c =>
      rw [hc] at hk
      cases hk
      exact Or.inl ⟨k, ia_cell ad ca h' (0 + k) c, by rw [ia_w_get, hc]; rfl⟩
  · exact Or.inr hq
theorem ia_slots_get (ad : Nat → Nat) (h : ia_H) (x : Nat) : ∀ (ks : List (Nat ⊕ Bool)) (j b : Nat), (ia_slots ad h x j ks)[b]? = (ia_kind ks b).map (ia_slot ad h x (j + b))
  | [], _, _ => by simp [ia_slots, ia_kind]
  | k :: ks, j, 0 => by simp [ia_slots, ia_kind]
  | k :: ks, j, b + 1 => by
    rw [ia_slots, List.getElem?_cons_succ, ia_slots_get ad h x ks (j + 1) b]
    simp only [ia_kind]
    rw [show j + 1 + b = j + (b + 1) by omega]
theorem ia_slots_setI {ad : Nat → Nat} {h : ia_H} {x b : Nat} {z : Int32} {ks : List (Nat ⊕ Bool)} (hb : ia_kind ks b = some (.inr false)) : (ia_slots ad h x 0 ks).set b (.int z) = ia_slots ad (ia_uI h.1 x b z, h.2) x 0 ks := by
  apply List.ext_getElem?
  intro i
  rw [List.getElem?_set, ia_slots_get, ia_slots_get]
  have hx : (ia_uI h.1 x b z) x = upd (h.1 x) b z := if_pos rfl
  by_cases hi : b = i
  · subst hi
    have hlt : b < (ia_slots ad h x 0 ks).length := by
      have e : (ia_slots ad h x 0 ks)[b]? = some (ia_slot ad h x (0 + b) (.inr false)) := by rw [ia_slots_get, hb]; rfl
      exact (List.getElem?_eq_some_iff.mp e).1
    rw [if_pos rfl, if_pos hlt, hb]
    simp [ia_slot, hx, upd]
  · rw [if_neg hi, Nat.zero_add]
    cases ia_kind ks i with
    | none => rfl
    | some k =>
      rcases k with y | bb
      · rfl
      · cases bb
        · simp only [Option.map_some, ia_slot, hx, upd, if_neg (fun q => hi q.symm : ¬ i = b)]
        · rfl
theorem ia_slots_setL {ad : Nat → Nat} {h : ia_H} {x b : Nat} {z : Int64} {ks : List (Nat ⊕ Bool)} (hb : ia_kind ks b = some (.inr true)) : (ia_slots ad h x 0 ks).set b (.long z) = ia_slots ad (h.1, ia_uL h.2 x b z) x 0 ks := by
  apply List.ext_getElem?
  intro i
  rw [List.getElem?_set, ia_slots_get, ia_slots_get]
  have hx : (ia_uL h.2 x b z) x = vp_updL (h.2 x) b z := if_pos rfl
  by_cases hi : b = i
  · subst hi
    have hlt : b < (ia_slots ad h x 0 ks).length := by
      have e : (ia_slots ad h x 0 ks)[b]? = some (ia_slot ad h x (0 + b) (.inr true)) := by rw [ia_slots_get, hb]; rfl
      exact (List.getElem?_eq_some_iff.mp e).1
    rw [if_pos rfl, if_pos hlt, hb]
    simp [ia_slot, hx, vp_updL]
  · rw [if_neg hi, Nat.zero_add]
    cases ia_kind ks i with
    | none => rfl
    | some k =>
      rcases k with y | bb
      · rfl
      · cases bb
        · rfl
        · simp only [Option.map_some, ia_slot, hx, vp_updL, if_neg (fun q => hi q.symm : ¬ i = b)]
theorem ia_uI_ne {f : Nat → Nat → Int32} {x i y : Nat} {z : Int32} (h : y ≠ x) : ia_uI f x i z y = f y := if_neg h
theorem ia_uL_ne {f : Nat → Nat → Int64} {x i y : Nat} {z : Int64} (h : y ≠ x) : ia_uL f x i z y = f y := if_neg h
/-! locals -/
theorem ia_get_none : ∀ (n i : Nat), ia_get (List.replicate n none) i = none
  | 0, _ => rfl
  | _ + 1, 0 => rfl
  | n + 1, i + 1 => ia_get_none n i
theorem ia_get_set : ∀ (ls : ia_L) (i j : Nat) (v : Option Value), ia_get (ia_set ls i v) j = if j = i ∧ i < ls.length then v else ia_get ls j
  | [], i, j, v => by simp [ia_set, ia_get]
  | w :: t, 0, 0, v => by simp [ia_set, ia_get]
  | w :: t, 0, j + 1, v => by simp [ia_set, ia_get]
  | w :: t, i + 1, 0, v => by simp [ia_set, ia_get]
  | w :: t, i + 1, j + 1, v => by
    rw [ia_set, ia_get, ia_get_set t i j v, ia_get]
    simp
theorem ia_set_len : ∀ (ls : ia_L) (i : Nat) (v : Option Value), (ia_set ls i v).length = ls.length
  | [], _, _ => rfl
  | _ :: _, 0, _ => rfl
  | _ :: t, i + 1, v => by simp [ia_set, ia_set_len t i v]
theorem ia_clr_len (ls : ia_L) (i : Nat) : (ia_clr ls i).length = ls.length := by
  cases i with
  | zero => rfl
  | succ k => simp only [ia_clr]; split <;> simp [ia_set_len]
def ia_R (ad : Nat → Nat) (nL : Nat) (lc : Array Slot) (ls : ia_L) : Prop := ls.length = nL ∧ lc.size = nL ∧ lv_wf lc ∧ ∀ (i : Nat) (v : Value), ia_get ls i = some v → lc[i]? = some (.val (ia_v ad v))
theorem ia_get_lt : ∀ {ls : ia_L} {i : Nat} {v : Value}, ia_get ls i = some v → i < ls.length
  | [], _, _, h => by cases h
  | _ :: _, 0, _, _ => by simp
  | _ :: t, i + 1, v, h => by
    have := ia_get_lt (ls := t) (i := i) (v := v) h
    simp; omega
theorem ia_cat (ad : Nat → Nat) (v : Value) : (ia_v ad v).category = v.category := by cases v <;> rfl
/-- the listed values, as the kit's rows want them -/
def ia_al (ad : Nat → Nat) (ls : ia_L) : List (Nat × Value) := (List.range ls.length).filterMap (fun i => (ia_get ls i).map (fun v => (i, ia_v ad v)))
theorem ia_al_mem {ad : Nat → Nat} {ls : ia_L} {q : Nat × Value} : q ∈ ia_al ad ls ↔ ∃ v, ia_get ls q.1 = some v ∧ q.2 = ia_v ad v := by
  unfold ia_al
  rw [List.mem_filterMap]
  constructor
  · rintro ⟨i, -, hi⟩
    cases hg : ia_get ls i with
    | none => rw [hg] at hi; cases hi
    | some v => rw [hg] at hi; cases hi; exact ⟨v, hg, rfl⟩
  · rintro ⟨v, hg, hv⟩
    refine ⟨q.1, List.mem_range.mpr (ia_get_lt hg), ?_⟩
    rw [hg]
    show some (q.1, ia_v ad v) = some q
    rw [← hv]
theorem ia_R_has {ad : Nat → Nat} {nL : Nat} {lc : Array Slot} {ls : ia_L} (h : ia_R ad nL lc ls) : lv_has lc nL (ia_al ad ls) := by
  refine ⟨h.2.1, h.2.2.1, fun q hq => ?_⟩
  obtain ⟨v, hg, hv⟩ := ia_al_mem.mp hq
  rw [hv]
  exact h.2.2.2 q.1 v hg
theorem ia_R_of {ad : Nat → Nat} {nL : Nat} {lc : Array Slot} {ls : ia_L} {lv : List (Nat × Value)} (hl : ls.length = nL) (h : lv_has lc nL lv) (hs : ∀ q ∈ ia_al ad ls, q ∈ lv) : ia_R ad nL lc ls := by
  refine ⟨hl, h.1, h.2.1, fun i v hg => ?_⟩
  exact h.2.2 (i, ia_v ad v) (hs _ (ia_al_mem.mpr ⟨v, hg, rfl⟩))
theorem ia_clr_get {ls : ia_L} {i j : Nat} {v : Value} (h : ia_get (ia_clr ls i) j = some v) : ia_get ls j = some v ∧ ¬ (j + 1 = i ∧ v.category = 2) := by
  cases i with
  | zero => exact ⟨h, fun q => by omega⟩
  | succ k =>
    simp only [ia_clr] at h
    split at h
    · rename_i x hx
      rw [ia_get_set] at h
      by_cases hj : j = k ∧ k < ls.length
      · rw [if_pos hj] at h; cases h
      · rw [if_neg hj] at h
        refine ⟨h, fun q => hj ⟨by omega, ia_get_lt hx⟩⟩
    · rename_i x hx
      rw [ia_get_set] at h
      by_cases hj : j = k ∧ k < ls.length
      · rw [if_pos hj] at h; cases h
      · rw [if_neg hj] at h
        refine ⟨h, fun q => hj ⟨by omega, ia_get_lt hx⟩⟩
    · rename_i hn1 hn2
      refine ⟨h, fun q => ?_⟩
      have hjk : j = k := by omega
      subst hjk
      cases v with
      | long x => exact hn1 x h
      | double x => exact hn2 x h
      | _ => simp [Value.category] at q
theorem ia_R_st1 {ad : Nat → Nat} {nL : Nat} {lc lc' : Array Slot} {ls : ia_L} {i : Nat} {v : Value} (h : ia_R ad nL lc ls) (h' : lv_has lc' nL ((i, ia_v ad v) :: (ia_al ad ls).filter (fun q => !(q.1 == i) && !(q.1 + 1 == i && q.2.category == 2)))) : ia_R ad nL lc' (ia_st1 ls i v) := by
  refine ia_R_of (by simp [ia_st1, ia_set_len, ia_clr_len, h.1]) h' (fun q hq => ?_)
  obtain ⟨u, hg, hu⟩ := ia_al_mem.mp hq
  simp only [ia_st1] at hg
  rw [ia_get_set] at hg
  by_cases hj : q.1 = i ∧ i < (ia_clr ls i).length
  · rw [if_pos hj] at hg
    cases hg
    exact List.mem_cons.mpr (Or.inl (Prod.ext hj.1 hu))
  · rw [if_neg hj] at hg
    obtain ⟨g1, g2⟩ := ia_clr_get hg
    have hne : q.1 ≠ i := fun q0 => hj ⟨q0, by rw [ia_clr_len, ← q0]; exact ia_get_lt g1⟩
    refine List.mem_cons.mpr (Or.inr (List.mem_filter.mpr ⟨ia_al_mem.mpr ⟨u, g1, hu⟩, ?_⟩))
    have hc : q.2.category = u.category := by rw [hu, ia_cat]
    simp only [Bool.and_eq_true, Bool.not_eq_true', beq_eq_false_iff_ne, Bool.and_eq_false_iff]
    refine ⟨hne, ?_⟩
    by_cases h1 : q.1 + 1 = i
    · exact Or.inr (fun h2 => g2 ⟨h1, by rw [← hc]; exact h2⟩)
    · exact Or.inl h1
theorem ia_R_st2 {ad : Nat → Nat} {nL : Nat} {lc lc' : Array Slot} {ls : ia_L} {i : Nat} {v : Value} (h : ia_R ad nL lc ls) (hi : i + 1 < nL) (h' : lv_has lc' nL ((i, ia_v ad v) :: (ia_al ad ls).filter (fun q => !(q.1 == i) && (!(q.1 == i + 1) && !(q.1 + 1 == i && q.2.category == 2))))) : ia_R ad nL lc' (ia_st2 ls i v) := by
  refine ia_R_of (by simp [ia_st2, ia_set_len, ia_clr_len, h.1]) h' (fun q hq => ?_)
  obtain ⟨u, hg, hu⟩ := ia_al_mem.mp hq
  simp only [ia_st2] at hg
  rw [ia_get_set] at hg
  by_cases hj2 : q.1 = i + 1 ∧ i + 1 < (ia_set (ia_clr ls i) i (some v)).length
  · rw [if_pos hj2] at hg; cases hg
  rw [if_neg hj2, ia_get_set] at hg
  have hne2 : q.1 ≠ i + 1 := fun q0 => hj2 ⟨q0, by rw [ia_set_len, ia_clr_len, h.1]; exact hi⟩
  by_cases hj : q.1 = i ∧ i < (ia_clr ls i).length
  · rw [if_pos hj] at hg
    cases hg
    exact List.mem_cons.mpr (Or.inl (Prod.ext hj.1 hu))
  · rw [if_neg hj] at hg
    obtain ⟨g1, g2⟩ := ia_clr_get hg
    have hne : q.1 ≠ i := fun q0 => hj ⟨q0, by rw [ia_clr_len, ← q0]; exact ia_get_lt g1⟩
    refine List.mem_cons.mpr (Or.inr (List.mem_filter.mpr ⟨ia_al_mem.mpr ⟨u, g1, hu⟩, ?_⟩))
    have hc : q.2.category = u.category := by rw [hu, ia_cat]
    simp only [Bool.and_eq_true, Bool.not_eq_true', beq_eq_false_iff_ne, Bool.and_eq_false_iff]
    refine ⟨hne, hne2, ?_⟩
    by_cases h1 : q.1 + 1 = i
    · exact Or.inr (fun h2 => g2 ⟨h1, by rw [← hc]; exact h2⟩)
    · exact Or.inl h1
section IA
variable {p : Program} {l : Launch} {e : Env} {R : Room} {s : State} {m : MethodId} {args : Array Value} {below : List Frame} {meth : Method} {c : Code} {Q : State → Prop} {cells slots : Nat}
variable {cc : ByteArray} {D : va_G} {cl : List vw_C} {A : Nat → Prop} {tys : List (ClassId × FieldType)} {H0 : Heap} {Sh : List ia_C} {ad : Nat → Nat} {ca : Nat → ClassId} {nL : Nat}
variable {C : Nat → List Value → ia_H → Option Value → ia_H → Prop} {Z : Option Value → ia_H → Prop} {pc a b w : Nat} {v : Value} {ts : List (Int × Nat)} {ls : ia_L} {st : List Value} {hh : ia_H}
/-- the JVM's frame stands as the pure one: wherever that is so, it comes to Q -/
def ia_X (p : Program) (l : Launch) (e : Env) (R : Room) (s : State) (m : MethodId) (args : Array Value) (below : List Frame) (meth : Method) (c : Code) (Q : State → Prop) (cells slots : Nat) (D : va_G) (cl : List vw_C) (A : Nat → Prop) (H0 : Heap) (Sh : List ia_C) (ad : Nat → Nat) (ca : Nat → ClassId) (nL : Nat) (t : ia_S) : Prop :=
  ∀ (H : Heap) (locs : List Loc) (lc : Array Slot), va_P D cl (ia_w ad ca t.2.2.2 0 Sh) H → va_D A (ia_w ad ca t.2.2.2 0 Sh) → va_S A H0 H locs → ia_R ad nL lc t.2.1 → W p l e R s m args below meth c H locs cells slots Q (F0 m t.1 lc (t.2.2.1.map (ia_v ad)))
theorem ia_s_aload_n (hx : p.tables.exec = Jvm.exec) (hb : c.code = cc) {k : Fin 4} (hdg : decode cc pc = .ok (.aload_n k, 1)) (h : ia_pre C Z (ia_X p l e R s m args below meth c Q cells slots D cl A H0 Sh ad ca nL) (ia_f Sh (pc, .aload_n k, 1, a, b, w, v, ts) ls st hh)) : ia_X p l e R s m args below meth c Q cells slots D cl A H0 Sh ad ca nL (pc, ls, st, hh) := by
  simp only [ia_f] at h
  split at h
  · rename_i x hg
    intro H locs lc hP hD hS hR
    exact lv_aload_n hx hb hdg rfl (hR.2.2.2 _ _ hg) (h H locs lc hP hD hS hR)
  · exact h.elim
theorem ia_s_aload (hx : p.tables.exec = Jvm.exec) (hb : c.code = cc) {k : Nat} (hdg : decode cc pc = .ok (.aload k, 2)) (h : ia_pre C Z (ia_X p l e R s m args below meth c Q cells slots D cl A H0 Sh ad ca nL) (ia_f Sh (pc, .aload k, 2, a, b, w, v, ts) ls st hh)) : ia_X p l e R s m args below meth c Q cells slots D cl A H0 Sh ad ca nL (pc, ls, st, hh) := by
  simp only [ia_f] at h
  split at h
  · rename_i x hg
    intro H locs lc hP hD hS hR
    exact lv_aload hx hb hdg (hR.2.2.2 _ _ hg) (h H locs lc hP hD hS hR)
  · exact h.elim
theorem ia_s_iload_n (hx : p.tables.exec = Jvm.exec) (hb : c.code = cc) {k : Fin 4} (hdg : decode cc pc = .ok (.iload_n k, 1)) (h : ia_pre C Z (ia_X p l e R s m args below meth c Q cells slots D cl A H0 Sh ad ca nL) (ia_f Sh (pc, .iload_n k, 1, a, b, w, v, ts) ls st hh)) : ia_X p l e R s m args below meth c Q cells slots D cl A H0 Sh ad ca nL (pc, ls, st, hh) := by
  simp only [ia_f] at h
  split at h
  · rename_i x hg
    intro H locs lc hP hD hS hR
    exact lv_iload_n hx hb hdg rfl (hR.2.2.2 _ _ hg) (h H locs lc hP hD hS hR)
  · exact h.elim
theorem ia_s_iload (hx : p.tables.exec = Jvm.exec) (hb : c.code = cc) {k : Nat} (hdg : decode cc pc = .ok (.iload k, 2)) (h : ia_pre C Z (ia_X p l e R s m args below meth c Q cells slots D cl A H0 Sh ad ca nL) (ia_f Sh (pc, .iload k, 2, a, b, w, v, ts) ls st hh)) : ia_X p l e R s m args below meth c Q cells slots D cl A H0 Sh ad ca nL (pc, ls, st, hh) := by
  simp only [ia_f] at h
  split at h
  · rename_i x hg
    intro H locs lc hP hD hS hR
    exact lv_iload hx hb hdg (hR.2.2.2 _ _ hg) (h H locs lc hP hD hS hR)
  · exact h.elim
theorem ia_s_lload_n (hx : p.tables.exec = Jvm.exec) (hb : c.code = cc) {k : Fin 4} (hdg : decode cc pc = .ok (.lload_n k, 1)) (h : ia_pre C Z (ia_X p l e R s m args below meth c Q cells slots D cl A H0 Sh ad ca nL) (ia_f Sh (pc, .lload_n k, 1, a, b, w, v, ts) ls st hh)) : ia_X p l e R s m args below meth c Q cells slots D cl A H0 Sh ad ca nL (pc, ls, st, hh) := by
  simp only [ia_f] at h
  split at h
  · rename_i x hg
    intro H locs lc hP hD hS hR
    exact lv_lload_n hx hb hdg rfl (hR.2.2.2 _ _ hg) (h H locs lc hP hD hS hR)
  · exact h.elim
theorem ia_s_lload (hx : p.tables.exec = Jvm.exec) (hb : c.code = cc) {k : Nat} (hdg : decode cc pc = .ok (.lload k, 2)) (h : ia_pre C Z (ia_X p l e R s m args below meth c Q cells slots D cl A H0 Sh ad ca nL) (ia_f Sh (pc, .lload k, 2, a, b, w, v, ts) ls st hh)) : ia_X p l e R s m args below meth c Q cells slots D cl A H0 Sh ad ca nL (pc, ls, st, hh) := by
  simp only [ia_f] at h
  split at h
  · rename_i x hg
    intro H locs lc hP hD hS hR
    exact lv_lload hx hb hdg (hR.2.2.2 _ _ hg) (h H locs lc hP hD hS hR)
  · exact h.elim
theorem ia_s_dload_n (hx : p.tables.exec = Jvm.exec) (hb : c.code = cc) {k : Fin 4} (hdg : decode cc pc = .ok (.dload_n k, 1)) (h : ia_pre C Z (ia_X p l e R s m args below meth c Q cells slots D cl A H0 Sh ad ca nL) (ia_f Sh (pc, .dload_n k, 1, a, b, w, v, ts) ls st hh)) : ia_X p l e R s m args below meth c Q cells slots D cl A H0 Sh ad ca nL (pc, ls, st, hh) := by
  simp only [ia_f] at h
  split at h
  · rename_i x hg
    intro H locs lc hP hD hS hR
    exact lv_dload_n hx hb hdg rfl (hR.2.2.2 _ _ hg) (h H locs lc hP hD hS hR)
  · exact h.elim
theorem ia_s_astore_n (hx : p.tables.exec = Jvm.exec) (hb : c.code = cc) {k : Fin 4} (hk : k.val < nL) (hdg : decode cc pc = .ok (.astore_n k, 1)) (h : ia_pre C Z (ia_X p l e R s m args below meth c Q cells slots D cl A H0 Sh ad ca nL) (ia_f Sh (pc, .astore_n k, 1, a, b, w, v, ts) ls st hh)) : ia_X p l e R s m args below meth c Q cells slots D cl A H0 Sh ad ca nL (pc, ls, st, hh) := by
  simp only [ia_f, ia_st1K_eq, ia_st2K_eq] at h
  split at h <;> first | exact h.elim | skip
  all_goals (
    intro H locs lc hP hD hS hR
    exact lv_astore_n hx hb hdg rfl (ia_R_has hR) hk rfl (fun lc' hl => h H locs lc' hP hD hS (ia_R_st1 hR hl)))
theorem ia_s_astore (hx : p.tables.exec = Jvm.exec) (hb : c.code = cc) {k : Nat} (hk : k < nL) (hdg : decode cc pc = .ok (.astore k, 2)) (h : ia_pre C Z (ia_X p l e R s m args below meth c Q cells slots D cl A H0 Sh ad ca nL) (ia_f Sh (pc, .astore k, 2, a, b, w, v, ts) ls st hh)) : ia_X p l e R s m args below meth c Q cells slots D cl A H0 Sh ad ca nL (pc, ls, st, hh) := by
  simp only [ia_f, ia_st1K_eq, ia_st2K_eq] at h
  split at h <;> first | exact h.elim | skip
  all_goals (
    intro H locs lc hP hD hS hR
    exact lv_astore hx hb hdg (ia_R_has hR) hk rfl (fun lc' hl => h H locs lc' hP hD hS (ia_R_st1 hR hl)))
theorem ia_s_istore_n (hx : p.tables.exec = Jvm.exec) (hb : c.code = cc) {k : Fin 4} (hk : k.val < nL) (hdg : decode cc pc = .ok (.istore_n k, 1)) (h : ia_pre C Z (ia_X p l e R s m args below meth c Q cells slots D cl A H0 Sh ad ca nL) (ia_f Sh (pc, .istore_n k, 1, a, b, w, v, ts) ls st hh)) : ia_X p l e R s m args below meth c Q cells slots D cl A H0 Sh ad ca nL (pc, ls, st, hh) := by
  simp only [ia_f, ia_st1K_eq, ia_st2K_eq] at h
  split at h <;> first | exact h.elim | skip
  all_goals (
    intro H locs lc hP hD hS hR
    exact lv_istore_n hx hb hdg rfl (ia_R_has hR) hk rfl (fun lc' hl => h H locs lc' hP hD hS (ia_R_st1 hR hl)))
theorem ia_s_istore (hx : p.tables.exec = Jvm.exec) (hb : c.code = cc) {k : Nat} (hk : k < nL) (hdg : decode cc pc = .ok (.istore k, 2)) (h : ia_pre C Z (ia_X p l e R s m args below meth c Q cells slots D cl A H0 Sh ad ca nL) (ia_f Sh (pc, .istore k, 2, a, b, w, v, ts) ls st hh)) : ia_X p l e R s m args below meth c Q cells slots D cl A H0 Sh ad ca nL (pc, ls, st, hh) := by
  simp only [ia_f, ia_st1K_eq, ia_st2K_eq] at h
  split at h <;> first | exact h.elim | skip
  all_goals (
    intro H locs lc hP hD hS hR
    exact lv_istore hx hb hdg (ia_R_has hR) hk rfl (fun lc' hl => h H locs lc' hP hD hS (ia_R_st1 hR hl)))
theorem ia_s_lstore_n (hx : p.tables.exec = Jvm.exec) (hb : c.code = cc) {k : Fin 4} (hk : k.val + 1 < nL) (hdg : decode cc pc = .ok (.lstore_n k, 1)) (h : ia_pre C Z (ia_X p l e R s m args below meth c Q cells slots D cl A H0 Sh ad ca nL) (ia_f Sh (pc, .lstore_n k, 1, a, b, w, v, ts) ls st hh)) : ia_X p l e R s m args below meth c Q cells slots D cl A H0 Sh ad ca nL (pc, ls, st, hh) := by
  simp only [ia_f, ia_st1K_eq, ia_st2K_eq] at h
  split at h <;> first | exact h.elim | skip
  all_goals (
    intro H locs lc hP hD hS hR
    exact lv_lstore_n hx hb hdg rfl (ia_R_has hR) hk rfl (fun lc' hl => h H locs lc' hP hD hS (ia_R_st2 hR hk hl)))
theorem ia_s_lstore (hx : p.tables.exec = Jvm.exec) (hb : c.code = cc) {k : Nat} (hk : k + 1 < nL) (hdg : decode cc pc = .ok (.lstore k, 2)) (h : ia_pre C Z (ia_X p l e R s m args below meth c Q cells slots D cl A H0 Sh ad ca nL) (ia_f Sh (pc, .lstore k, 2, a, b, w, v, ts) ls st hh)) : ia_X p l e R s m args below meth c Q cells slots D cl A H0 Sh ad ca nL (pc, ls, st, hh) := by
  simp only [ia_f, ia_st1K_eq, ia_st2K_eq] at h
  split at h <;> first | exact h.elim | skip
  all_goals (
    intro H locs lc hP hD hS hR
    exact lv_lstore hx hb hdg (ia_R_has hR) hk rfl (fun lc' hl => h H locs lc' hP hD hS (ia_R_st2 hR hk hl)))
theorem ia_s_dstore_n (hx : p.tables.exec = Jvm.exec) (hb : c.code = cc) {k : Fin 4} (hk : k.val + 1 < nL) (hdg : decode cc pc = .ok (.dstore_n k, 1)) (h : ia_pre C Z (ia_X p l e R s m args below meth c Q cells slots D cl A H0 Sh ad ca nL) (ia_f Sh (pc, .dstore_n k, 1, a, b, w, v, ts) ls st hh)) : ia_X p l e R s m args below meth c Q cells slots D cl A H0 Sh ad ca nL (pc, ls, st, hh) := by
  simp only [ia_f, ia_st1K_eq, ia_st2K_eq] at h
  split at h <;> first | exact h.elim | skip
  all_goals (
    intro H locs lc hP hD hS hR
    exact lv_dstore_n hx hb hdg rfl (ia_R_has hR) hk rfl (fun lc' hl => h H locs lc' hP hD hS (ia_R_st2 hR hk hl)))
theorem ia_s_iinc (hx : p.tables.exec = Jvm.exec) (hb : c.code = cc) {k : Nat} {n : Int} (hk : k < nL) (hdg : decode cc pc = .ok (.iinc k n, 3)) (h : ia_pre C Z (ia_X p l e R s m args below meth c Q cells slots D cl A H0 Sh ad ca nL) (ia_f Sh (pc, .iinc k n, 3, a, b, w, .int (Int32.ofInt n), ts) ls st hh)) : ia_X p l e R s m args below meth c Q cells slots D cl A H0 Sh ad ca nL (pc, ls, st, hh) := by
  simp only [ia_f, ia_st1K_eq] at h
  split at h
  · rename_i x hg
    intro H locs lc hP hD hS hR
    obtain ⟨j, hj⟩ := List.mem_iff_getElem?.mp (ia_al_mem (ad := ad) (q := (k, .int x)).mpr ⟨.int x, hg, rfl⟩)
    exact lv_iinc hx hb hdg (ia_R_has hR) hj rfl hk rfl (fun lc' hl => h H locs lc' hP hD hS (ia_R_st1 (v := .int (x + Int32.ofInt n)) hR hl))
  · exact h.elim
theorem ia_s_iconst (hx : p.tables.exec = Jvm.exec) (hb : c.code = cc) {n : Int} (hdg : decode cc pc = .ok (.iconst n, 1)) (h : ia_pre C Z (ia_X p l e R s m args below meth c Q cells slots D cl A H0 Sh ad ca nL) (ia_f Sh (pc, .iconst n, 1, a, b, w, .int (Int32.ofInt n), ts) ls st hh)) : ia_X p l e R s m args below meth c Q cells slots D cl A H0 Sh ad ca nL (pc, ls, st, hh) := by
  intro H locs lc hP hD hS hR
  exact lv_iconst hx hb hdg rfl (h H locs lc hP hD hS hR)
theorem ia_s_bipush (hx : p.tables.exec = Jvm.exec) (hb : c.code = cc) {n : Int} (hdg : decode cc pc = .ok (.bipush n, 2)) (h : ia_pre C Z (ia_X p l e R s m args below meth c Q cells slots D cl A H0 Sh ad ca nL) (ia_f Sh (pc, .bipush n, 2, a, b, w, .int (Int8.ofInt n).toInt32, ts) ls st hh)) : ia_X p l e R s m args below meth c Q cells slots D cl A H0 Sh ad ca nL (pc, ls, st, hh) := by
  intro H locs lc hP hD hS hR
  exact lv_bipush hx hb hdg rfl (h H locs lc hP hD hS hR)
theorem ia_s_sipush (hx : p.tables.exec = Jvm.exec) (hb : c.code = cc) {n : Int} (hdg : decode cc pc = .ok (.sipush n, 3)) (h : ia_pre C Z (ia_X p l e R s m args below meth c Q cells slots D cl A H0 Sh ad ca nL) (ia_f Sh (pc, .sipush n, 3, a, b, w, .int (Int16.ofInt n).toInt32, ts) ls st hh)) : ia_X p l e R s m args below meth c Q cells slots D cl A H0 Sh ad ca nL (pc, ls, st, hh) := by
  intro H locs lc hP hD hS hR
  exact lv_sipush hx hb hdg rfl (h H locs lc hP hD hS hR)
theorem ia_s_lconst (hx : p.tables.exec = Jvm.exec) (hb : c.code = cc) {n : Fin 2} (hdg : decode cc pc = .ok (.lconst n, 1)) (h : ia_pre C Z (ia_X p l e R s m args below meth c Q cells slots D cl A H0 Sh ad ca nL) (ia_f Sh (pc, .lconst n, 1, a, b, w, .long (Int64.ofNat n.val), ts) ls st hh)) : ia_X p l e R s m args below meth c Q cells slots D cl A H0 Sh ad ca nL (pc, ls, st, hh) := by
  intro H locs lc hP hD hS hR
  exact lv_lconst hx hb hdg rfl (h H locs lc hP hD hS hR)
theorem ia_s_dconst (hx : p.tables.exec = Jvm.exec) (hb : c.code = cc) (hdg : decode cc pc = .ok (.dconst 0, 1)) (h : ia_pre C Z (ia_X p l e R s m args below meth c Q cells slots D cl A H0 Sh ad ca nL) (ia_f Sh (pc, .dconst 0, 1, a, b, w, v, ts) ls st hh)) : ia_X p l e R s m args below meth c Q cells slots D cl A H0 Sh ad ca nL (pc, ls, st, hh) := by
  intro H locs lc hP hD hS hR
  exact lv_dconst0 hx hb hdg (h H locs lc hP hD hS hR)
theorem ia_s_ldc2l (hx : p.tables.exec = Jvm.exec) (hb : c.code = cc) {own : String} {i : Nat} {x : Int64} (hown : s.vm.findClass own = some m.cls) (hw : (Jvm.Cond.constantLong own i x).before args s = true) (hdg : decode cc pc = .ok (.ldc2_w i, 3)) (h : ia_pre C Z (ia_X p l e R s m args below meth c Q cells slots D cl A H0 Sh ad ca nL) (ia_f Sh (pc, .ldc2_w i, 3, a, b, w, .long x, ts) ls st hh)) : ia_X p l e R s m args below meth c Q cells slots D cl A H0 Sh ad ca nL (pc, ls, st, hh) := by
  intro H locs lc hP hD hS hR
  exact lv_ldc2 hx hb hown hw hdg (h H locs lc hP hD hS hR)
theorem ia_s_ldc2d (hx : p.tables.exec = Jvm.exec) (hb : c.code = cc) {own : String} {i : Nat} {x : UInt64} (hown : s.vm.findClass own = some m.cls) (hw : (Jvm.Cond.constantDouble own i x).before args s = true) (hdg : decode cc pc = .ok (.ldc2_w i, 3)) (h : ia_pre C Z (ia_X p l e R s m args below meth c Q cells slots D cl A H0 Sh ad ca nL) (ia_f Sh (pc, .ldc2_w i, 3, a, b, w, .double x, ts) ls st hh)) : ia_X p l e R s m args below meth c Q cells slots D cl A H0 Sh ad ca nL (pc, ls, st, hh) := by
  intro H locs lc hP hD hS hR
  exact lv_ldc2d hx hb hown hw hdg (h H locs lc hP hD hS hR)
theorem ia_s_iadd (hx : p.tables.exec = Jvm.exec) (hb : c.code = cc) (hdg : decode cc pc = .ok (.iadd, 1)) (h : ia_pre C Z (ia_X p l e R s m args below meth c Q cells slots D cl A H0 Sh ad ca nL) (ia_f Sh (pc, .iadd, 1, a, b, w, v, ts) ls st hh)) : ia_X p l e R s m args below meth c Q cells slots D cl A H0 Sh ad ca nL (pc, ls, st, hh) := by
  simp only [ia_f] at h
  split at h <;> first | exact h.elim | skip
  all_goals (
    intro H locs lc hP hD hS hR
    exact lv_iadd hx hb hdg (h H locs lc hP hD hS hR))
theorem ia_s_isub (hx : p.tables.exec = Jvm.exec) (hb : c.code = cc) (hdg : decode cc pc = .ok (.isub, 1)) (h : ia_pre C Z (ia_X p l e R s m args below meth c Q cells slots D cl A H0 Sh ad ca nL) (ia_f Sh (pc, .isub, 1, a, b, w, v, ts) ls st hh)) : ia_X p l e R s m args below meth c Q cells slots D cl A H0 Sh ad ca nL (pc, ls, st, hh) := by
  simp only [ia_f] at h
  split at h <;> first | exact h.elim | skip
  all_goals (
    intro H locs lc hP hD hS hR
    exact lv_isub hx hb hdg (h H locs lc hP hD hS hR))
theorem ia_s_imul (hx : p.tables.exec = Jvm.exec) (hb : c.code = cc) (hdg : decode cc pc = .ok (.imul, 1)) (h : ia_pre C Z (ia_X p l e R s m args below meth c Q cells slots D cl A H0 Sh ad ca nL) (ia_f Sh (pc, .imul, 1, a, b, w, v, ts) ls st hh)) : ia_X p l e R s m args below meth c Q cells slots D cl A H0 Sh ad ca nL (pc, ls, st, hh) := by
  simp only [ia_f] at h
  split at h <;> first | exact h.elim | skip
  all_goals (
    intro H locs lc hP hD hS hR
    exact lv_imul hx hb hdg (h H locs lc hP hD hS hR))
theorem ia_s_iand (hx : p.tables.exec = Jvm.exec) (hb : c.code = cc) (hdg : decode cc pc = .ok (.iand, 1)) (h : ia_pre C Z (ia_X p l e R s m args below meth c Q cells slots D cl A H0 Sh ad ca nL) (ia_f Sh (pc, .iand, 1, a, b, w, v, ts) ls st hh)) : ia_X p l e R s m args below meth c Q cells slots D cl A H0 Sh ad ca nL (pc, ls, st, hh) := by
  simp only [ia_f] at h
  split at h <;> first | exact h.elim | skip
  all_goals (
    intro H locs lc hP hD hS hR
    exact lv_iand hx hb hdg (h H locs lc hP hD hS hR))
theorem ia_s_ixor (hx : p.tables.exec = Jvm.exec) (hb : c.code = cc) (hdg : decode cc pc = .ok (.ixor, 1)) (h : ia_pre C Z (ia_X p l e R s m args below meth c Q cells slots D cl A H0 Sh ad ca nL) (ia_f Sh (pc, .ixor, 1, a, b, w, v, ts) ls st hh)) : ia_X p l e R s m args below meth c Q cells slots D cl A H0 Sh ad ca nL (pc, ls, st, hh) := by
  simp only [ia_f] at h
  split at h <;> first | exact h.elim | skip
  all_goals (
    intro H locs lc hP hD hS hR
    exact lv_ixor hx hb hdg (h H locs lc hP hD hS hR))
theorem ia_s_ishr (hx : p.tables.exec = Jvm.exec) (hb : c.code = cc) (hdg : decode cc pc = .ok (.ishr, 1)) (h : ia_pre C Z (ia_X p l e R s m args below meth c Q cells slots D cl A H0 Sh ad ca nL) (ia_f Sh (pc, .ishr, 1, a, b, w, v, ts) ls st hh)) : ia_X p l e R s m args below meth c Q cells slots D cl A H0 Sh ad ca nL (pc, ls, st, hh) := by
  simp only [ia_f] at h
  split at h <;> first | exact h.elim | skip
  all_goals (
    intro H locs lc hP hD hS hR
    exact lv_ishr hx hb hdg (h H locs lc hP hD hS hR))
theorem ia_s_ladd (hx : p.tables.exec = Jvm.exec) (hb : c.code = cc) (hdg : decode cc pc = .ok (.ladd, 1)) (h : ia_pre C Z (ia_X p l e R s m args below meth c Q cells slots D cl A H0 Sh ad ca nL) (ia_f Sh (pc, .ladd, 1, a, b, w, v, ts) ls st hh)) : ia_X p l e R s m args below meth c Q cells slots D cl A H0 Sh ad ca nL (pc, ls, st, hh) := by
  simp only [ia_f] at h
  split at h <;> first | exact h.elim | skip
  all_goals (
    intro H locs lc hP hD hS hR
    exact lv_ladd hx hb hdg (h H locs lc hP hD hS hR))
theorem ia_s_lsub (hx : p.tables.exec = Jvm.exec) (hb : c.code = cc) (hdg : decode cc pc = .ok (.lsub, 1)) (h : ia_pre C Z (ia_X p l e R s m args below meth c Q cells slots D cl A H0 Sh ad ca nL) (ia_f Sh (pc, .lsub, 1, a, b, w, v, ts) ls st hh)) : ia_X p l e R s m args below meth c Q cells slots D cl A H0 Sh ad ca nL (pc, ls, st, hh) := by
  simp only [ia_f] at h
  split at h <;> first | exact h.elim | skip
  all_goals (
    intro H locs lc hP hD hS hR
    exact lv_lsub hx hb hdg (h H locs lc hP hD hS hR))
theorem ia_s_lmul (hx : p.tables.exec = Jvm.exec) (hb : c.code = cc) (hdg : decode cc pc = .ok (.lmul, 1)) (h : ia_pre C Z (ia_X p l e R s m args below meth c Q cells slots D cl A H0 Sh ad ca nL) (ia_f Sh (pc, .lmul, 1, a, b, w, v, ts) ls st hh)) : ia_X p l e R s m args below meth c Q cells slots D cl A H0 Sh ad ca nL (pc, ls, st, hh) := by
  simp only [ia_f] at h
  split at h <;> first | exact h.elim | skip
  all_goals (
    intro H locs lc hP hD hS hR
    exact lv_lmul hx hb hdg (h H locs lc hP hD hS hR))
theorem ia_s_land (hx : p.tables.exec = Jvm.exec) (hb : c.code = cc) (hdg : decode cc pc = .ok (.land, 1)) (h : ia_pre C Z (ia_X p l e R s m args below meth c Q cells slots D cl A H0 Sh ad ca nL) (ia_f Sh (pc, .land, 1, a, b, w, v, ts) ls st hh)) : ia_X p l e R s m args below meth c Q cells slots D cl A H0 Sh ad ca nL (pc, ls, st, hh) := by
  simp only [ia_f] at h
  split at h <;> first | exact h.elim | skip
  all_goals (
    intro H locs lc hP hD hS hR
    exact lv_land hx hb hdg (h H locs lc hP hD hS hR))
theorem ia_s_lor (hx : p.tables.exec = Jvm.exec) (hb : c.code = cc) (hdg : decode cc pc = .ok (.lor, 1)) (h : ia_pre C Z (ia_X p l e R s m args below meth c Q cells slots D cl A H0 Sh ad ca nL) (ia_f Sh (pc, .lor, 1, a, b, w, v, ts) ls st hh)) : ia_X p l e R s m args below meth c Q cells slots D cl A H0 Sh ad ca nL (pc, ls, st, hh) := by
  simp only [ia_f] at h
  split at h <;> first | exact h.elim | skip
  all_goals (
    intro H locs lc hP hD hS hR
    exact lv_lor hx hb hdg (h H locs lc hP hD hS hR))
theorem ia_s_lneg (hx : p.tables.exec = Jvm.exec) (hb : c.code = cc) (hdg : decode cc pc = .ok (.lneg, 1)) (h : ia_pre C Z (ia_X p l e R s m args below meth c Q cells slots D cl A H0 Sh ad ca nL) (ia_f Sh (pc, .lneg, 1, a, b, w, v, ts) ls st hh)) : ia_X p l e R s m args below meth c Q cells slots D cl A H0 Sh ad ca nL (pc, ls, st, hh) := by
  simp only [ia_f] at h
  split at h <;> first | exact h.elim | skip
  all_goals (
    intro H locs lc hP hD hS hR
    exact lv_lneg hx hb hdg (h H locs lc hP hD hS hR))
theorem ia_s_dneg (hx : p.tables.exec = Jvm.exec) (hb : c.code = cc) (hdg : decode cc pc = .ok (.dneg, 1)) (h : ia_pre C Z (ia_X p l e R s m args below meth c Q cells slots D cl A H0 Sh ad ca nL) (ia_f Sh (pc, .dneg, 1, a, b, w, v, ts) ls st hh)) : ia_X p l e R s m args below meth c Q cells slots D cl A H0 Sh ad ca nL (pc, ls, st, hh) := by
  simp only [ia_f] at h
  split at h <;> first | exact h.elim | skip
  all_goals (
    intro H locs lc hP hD hS hR
    exact lv_dneg hx hb hdg (h H locs lc hP hD hS hR))
theorem ia_s_i2d (hx : p.tables.exec = Jvm.exec) (hb : c.code = cc) (hdg : decode cc pc = .ok (.i2d, 1)) (h : ia_pre C Z (ia_X p l e R s m args below meth c Q cells slots D cl A H0 Sh ad ca nL) (ia_f Sh (pc, .i2d, 1, a, b, w, v, ts) ls st hh)) : ia_X p l e R s m args below meth c Q cells slots D cl A H0 Sh ad ca nL (pc, ls, st, hh) := by
  simp only [ia_f] at h
  split at h <;> first | exact h.elim | skip
  all_goals (
    intro H locs lc hP hD hS hR
    exact lv_i2d hx hb hdg (h H locs lc hP hD hS hR))
theorem ia_s_l2d (hx : p.tables.exec = Jvm.exec) (hb : c.code = cc) (hdg : decode cc pc = .ok (.l2d, 1)) (h : ia_pre C Z (ia_X p l e R s m args below meth c Q cells slots D cl A H0 Sh ad ca nL) (ia_f Sh (pc, .l2d, 1, a, b, w, v, ts) ls st hh)) : ia_X p l e R s m args below meth c Q cells slots D cl A H0 Sh ad ca nL (pc, ls, st, hh) := by
  simp only [ia_f] at h
  split at h <;> first | exact h.elim | skip
  all_goals (
    intro H locs lc hP hD hS hR
    exact lv_l2d hx hb hdg (h H locs lc hP hD hS hR))
theorem ia_s_d2l (hx : p.tables.exec = Jvm.exec) (hb : c.code = cc) (hdg : decode cc pc = .ok (.d2l, 1)) (h : ia_pre C Z (ia_X p l e R s m args below meth c Q cells slots D cl A H0 Sh ad ca nL) (ia_f Sh (pc, .d2l, 1, a, b, w, v, ts) ls st hh)) : ia_X p l e R s m args below meth c Q cells slots D cl A H0 Sh ad ca nL (pc, ls, st, hh) := by
  simp only [ia_f] at h
  split at h <;> first | exact h.elim | skip
  all_goals (
    intro H locs lc hP hD hS hR
    exact lv_d2l hx hb hdg (h H locs lc hP hD hS hR))
theorem ia_s_irem (hx : p.tables.exec = Jvm.exec) (hb : c.code = cc) (hdg : decode cc pc = .ok (.irem, 1)) (h : ia_pre C Z (ia_X p l e R s m args below meth c Q cells slots D cl A H0 Sh ad ca nL) (ia_f Sh (pc, .irem, 1, a, b, w, v, ts) ls st hh)) : ia_X p l e R s m args below meth c Q cells slots D cl A H0 Sh ad ca nL (pc, ls, st, hh) := by
  simp only [ia_f] at h
  split at h <;> first | exact h.elim | skip
  all_goals (
    obtain ⟨hg, h⟩ := h
    intro H locs lc hP hD hS hR
    exact lv_irem hx hb hdg hg (h H locs lc hP hD hS hR))
theorem ia_s_lshl (hx : p.tables.exec = Jvm.exec) (hb : c.code = cc) (hdg : decode cc pc = .ok (.lshl, 1)) (h : ia_pre C Z (ia_X p l e R s m args below meth c Q cells slots D cl A H0 Sh ad ca nL) (ia_f Sh (pc, .lshl, 1, a, b, w, v, ts) ls st hh)) : ia_X p l e R s m args below meth c Q cells slots D cl A H0 Sh ad ca nL (pc, ls, st, hh) := by
  simp only [ia_f] at h
  split at h <;> first | exact h.elim | skip
  all_goals (
    intro H locs lc hP hD hS hR
    exact lv_lshl hx hb hdg rfl (h H locs lc hP hD hS hR))
theorem ia_s_lcmp (hx : p.tables.exec = Jvm.exec) (hb : c.code = cc) (hdg : decode cc pc = .ok (.lcmp, 1)) (h : ia_pre C Z (ia_X p l e R s m args below meth c Q cells slots D cl A H0 Sh ad ca nL) (ia_f Sh (pc, .lcmp, 1, a, b, w, v, ts) ls st hh)) : ia_X p l e R s m args below meth c Q cells slots D cl A H0 Sh ad ca nL (pc, ls, st, hh) := by
  simp only [ia_f] at h
  split at h <;> first | exact h.elim | skip
  all_goals (
    intro H locs lc hP hD hS hR
    exact W.lcmp hx hb hdg (h H locs lc hP hD hS hR))
theorem ia_s_dcmp (hx : p.tables.exec = Jvm.exec) (hb : c.code = cc) {op : CmpOp} (hdg : decode cc pc = .ok (.dcmp op, 1)) (h : ia_pre C Z (ia_X p l e R s m args below meth c Q cells slots D cl A H0 Sh ad ca nL) (ia_f Sh (pc, .dcmp op, 1, a, b, w, v, ts) ls st hh)) : ia_X p l e R s m args below meth c Q cells slots D cl A H0 Sh ad ca nL (pc, ls, st, hh) := by
  simp only [ia_f] at h
  split at h <;> first | exact h.elim | skip
  all_goals (
    intro H locs lc hP hD hS hR
    exact lv_dcmp hx hb hdg (h H locs lc hP hD hS hR))
theorem ia_s_dadd (hx : p.tables.exec = Jvm.exec) (hb : c.code = cc) (hdg : decode cc pc = .ok (.dadd, 1)) (h : ia_pre C Z (ia_X p l e R s m args below meth c Q cells slots D cl A H0 Sh ad ca nL) (ia_f Sh (pc, .dadd, 1, a, b, w, v, ts) ls st hh)) : ia_X p l e R s m args below meth c Q cells slots D cl A H0 Sh ad ca nL (pc, ls, st, hh) := by
  simp only [ia_f] at h
  split at h <;> first | exact h.elim | skip
  all_goals (
    obtain ⟨hg, h⟩ := h
    intro H locs lc hP hD hS hR
    exact lv_dadd hx hb hdg hg (h H locs lc hP hD hS hR))
theorem ia_s_dmul (hx : p.tables.exec = Jvm.exec) (hb : c.code = cc) (hdg : decode cc pc = .ok (.dmul, 1)) (h : ia_pre C Z (ia_X p l e R s m args below meth c Q cells slots D cl A H0 Sh ad ca nL) (ia_f Sh (pc, .dmul, 1, a, b, w, v, ts) ls st hh)) : ia_X p l e R s m args below meth c Q cells slots D cl A H0 Sh ad ca nL (pc, ls, st, hh) := by
  simp only [ia_f] at h
  split at h <;> first | exact h.elim | skip
  all_goals (
    obtain ⟨hg, h⟩ := h
    intro H locs lc hP hD hS hR
    exact lv_dmul hx hb hdg hg (h H locs lc hP hD hS hR))
theorem ia_s_ddiv (hx : p.tables.exec = Jvm.exec) (hb : c.code = cc) (hdg : decode cc pc = .ok (.ddiv, 1)) (h : ia_pre C Z (ia_X p l e R s m args below meth c Q cells slots D cl A H0 Sh ad ca nL) (ia_f Sh (pc, .ddiv, 1, a, b, w, v, ts) ls st hh)) : ia_X p l e R s m args below meth c Q cells slots D cl A H0 Sh ad ca nL (pc, ls, st, hh) := by
  simp only [ia_f] at h
  split at h <;> first | exact h.elim | skip
  all_goals (
    obtain ⟨hg, h⟩ := h
    intro H locs lc hP hD hS hR
    exact lv_ddiv hx hb hdg hg (h H locs lc hP hD hS hR))
theorem ia_s_i2l (hx : p.tables.exec = Jvm.exec) (hb : c.code = cc) (hdg : decode cc pc = .ok (.i2l, 1)) (h : ia_pre C Z (ia_X p l e R s m args below meth c Q cells slots D cl A H0 Sh ad ca nL) (ia_f Sh (pc, .i2l, 1, a, b, w, v, ts) ls st hh)) : ia_X p l e R s m args below meth c Q cells slots D cl A H0 Sh ad ca nL (pc, ls, st, hh) := by
  simp only [ia_f] at h
  split at h <;> first | exact h.elim | skip
  all_goals (
    intro H locs lc hP hD hS hR
    exact lv_i2l hx hb hdg rfl (h H locs lc hP hD hS hR))
theorem ia_s_i2b (hx : p.tables.exec = Jvm.exec) (hb : c.code = cc) (hdg : decode cc pc = .ok (.i2b, 1)) (h : ia_pre C Z (ia_X p l e R s m args below meth c Q cells slots D cl A H0 Sh ad ca nL) (ia_f Sh (pc, .i2b, 1, a, b, w, v, ts) ls st hh)) : ia_X p l e R s m args below meth c Q cells slots D cl A H0 Sh ad ca nL (pc, ls, st, hh) := by
  simp only [ia_f] at h
  split at h <;> first | exact h.elim | skip
  all_goals (
    intro H locs lc hP hD hS hR
    exact lv_i2b hx hb hdg rfl (h H locs lc hP hD hS hR))
theorem ia_s_dup (hx : p.tables.exec = Jvm.exec) (hb : c.code = cc) (hdg : decode cc pc = .ok (.dup, 1)) (h : ia_pre C Z (ia_X p l e R s m args below meth c Q cells slots D cl A H0 Sh ad ca nL) (ia_f Sh (pc, .dup, 1, a, b, w, v, ts) ls st hh)) : ia_X p l e R s m args below meth c Q cells slots D cl A H0 Sh ad ca nL (pc, ls, st, hh) := by
  simp only [ia_f] at h
  split at h <;> first | exact h.elim | skip
  all_goals (
    intro H locs lc hP hD hS hR
    exact lv_dup hx hb hdg rfl (h H locs lc hP hD hS hR))
theorem ia_s_dup2 (hx : p.tables.exec = Jvm.exec) (hb : c.code = cc) (hdg : decode cc pc = .ok (.dup2, 1)) (h : ia_pre C Z (ia_X p l e R s m args below meth c Q cells slots D cl A H0 Sh ad ca nL) (ia_f Sh (pc, .dup2, 1, a, b, w, v, ts) ls st hh)) : ia_X p l e R s m args below meth c Q cells slots D cl A H0 Sh ad ca nL (pc, ls, st, hh) := by
  simp only [ia_f] at h
  split at h <;> first | exact h.elim | skip
  all_goals (
    intro H locs lc hP hD hS hR
    exact lv_dup2_11 hx hb hdg rfl rfl (h H locs lc hP hD hS hR))
theorem ia_s_goto (hx : p.tables.exec = Jvm.exec) (hb : c.code = cc) {off : Int} (ht : (pc : Int) + off = (a : Int)) (hdg : decode cc pc = .ok (.goto off, 3)) (h : ia_pre C Z (ia_X p l e R s m args below meth c Q cells slots D cl A H0 Sh ad ca nL) (ia_f Sh (pc, .goto off, 3, a, b, w, v, ts) ls st hh)) : ia_X p l e R s m args below meth c Q cells slots D cl A H0 Sh ad ca nL (pc, ls, st, hh) := by
  intro H locs lc hP hD hS hR
  exact lv_goto hx hb hdg ht (h H locs lc hP hD hS hR)
theorem ia_s_icmp_eq (hx : p.tables.exec = Jvm.exec) (hb : c.code = cc) {off : Int} (ht : (pc : Int) + off = (a : Int)) (hdg : decode cc pc = .ok (.if_icmp .eq off, 3)) (h : ia_pre C Z (ia_X p l e R s m args below meth c Q cells slots D cl A H0 Sh ad ca nL) (ia_f Sh (pc, .if_icmp .eq off, 3, a, b, w, v, ts) ls st hh)) : ia_X p l e R s m args below meth c Q cells slots D cl A H0 Sh ad ca nL (pc, ls, st, hh) := by
  simp only [ia_f] at h
  split at h <;> first | exact h.elim | skip
  all_goals (
    intro H locs lc hP hD hS hR
    exact lv_icmp_eq hx hb hdg ht (fun q => h.1 q H locs lc hP hD hS hR) (fun q => h.2 q H locs lc hP hD hS hR))
theorem ia_s_if_eq (hx : p.tables.exec = Jvm.exec) (hb : c.code = cc) {off : Int} (ht : (pc : Int) + off = (a : Int)) (hdg : decode cc pc = .ok (.ifCond .eq off, 3)) (h : ia_pre C Z (ia_X p l e R s m args below meth c Q cells slots D cl A H0 Sh ad ca nL) (ia_f Sh (pc, .ifCond .eq off, 3, a, b, w, v, ts) ls st hh)) : ia_X p l e R s m args below meth c Q cells slots D cl A H0 Sh ad ca nL (pc, ls, st, hh) := by
  simp only [ia_f] at h
  split at h <;> first | exact h.elim | skip
  all_goals (
    intro H locs lc hP hD hS hR
    exact lv_if_eq hx hb hdg ht (fun q => h.1 q H locs lc hP hD hS hR) (fun q => h.2 q H locs lc hP hD hS hR))
theorem ia_s_icmp_ne (hx : p.tables.exec = Jvm.exec) (hb : c.code = cc) {off : Int} (ht : (pc : Int) + off = (a : Int)) (hdg : decode cc pc = .ok (.if_icmp .ne off, 3)) (h : ia_pre C Z (ia_X p l e R s m args below meth c Q cells slots D cl A H0 Sh ad ca nL) (ia_f Sh (pc, .if_icmp .ne off, 3, a, b, w, v, ts) ls st hh)) : ia_X p l e R s m args below meth c Q cells slots D cl A H0 Sh ad ca nL (pc, ls, st, hh) := by
  simp only [ia_f] at h
  split at h <;> first | exact h.elim | skip
  all_goals (
    intro H locs lc hP hD hS hR
    exact lv_icmp_ne hx hb hdg ht (fun q => h.2 q H locs lc hP hD hS hR) (fun q => h.1 (by first | exact q | exact Classical.not_not.mp q) H locs lc hP hD hS hR))
theorem ia_s_if_ne (hx : p.tables.exec = Jvm.exec) (hb : c.code = cc) {off : Int} (ht : (pc : Int) + off = (a : Int)) (hdg : decode cc pc = .ok (.ifCond .ne off, 3)) (h : ia_pre C Z (ia_X p l e R s m args below meth c Q cells slots D cl A H0 Sh ad ca nL) (ia_f Sh (pc, .ifCond .ne off, 3, a, b, w, v, ts) ls st hh)) : ia_X p l e R s m args below meth c Q cells slots D cl A H0 Sh ad ca nL (pc, ls, st, hh) := by
  simp only [ia_f] at h
  split at h <;> first | exact h.elim | skip
  all_goals (
    intro H locs lc hP hD hS hR
    exact lv_if_ne hx hb hdg ht (fun q => h.2 q H locs lc hP hD hS hR) (fun q => h.1 (by first | exact q | exact Classical.not_not.mp q) H locs lc hP hD hS hR))
theorem ia_s_icmp_lt (hx : p.tables.exec = Jvm.exec) (hb : c.code = cc) {off : Int} (ht : (pc : Int) + off = (a : Int)) (hdg : decode cc pc = .ok (.if_icmp .lt off, 3)) (h : ia_pre C Z (ia_X p l e R s m args below meth c Q cells slots D cl A H0 Sh ad ca nL) (ia_f Sh (pc, .if_icmp .lt off, 3, a, b, w, v, ts) ls st hh)) : ia_X p l e R s m args below meth c Q cells slots D cl A H0 Sh ad ca nL (pc, ls, st, hh) := by
  simp only [ia_f] at h
  split at h <;> first | exact h.elim | skip
  all_goals (
    intro H locs lc hP hD hS hR
    exact lv_icmp_lt hx hb hdg ht (fun q => h.1 q H locs lc hP hD hS hR) (fun q => h.2 q H locs lc hP hD hS hR))
theorem ia_s_if_lt (hx : p.tables.exec = Jvm.exec) (hb : c.code = cc) {off : Int} (ht : (pc : Int) + off = (a : Int)) (hdg : decode cc pc = .ok (.ifCond .lt off, 3)) (h : ia_pre C Z (ia_X p l e R s m args below meth c Q cells slots D cl A H0 Sh ad ca nL) (ia_f Sh (pc, .ifCond .lt off, 3, a, b, w, v, ts) ls st hh)) : ia_X p l e R s m args below meth c Q cells slots D cl A H0 Sh ad ca nL (pc, ls, st, hh) := by
  simp only [ia_f] at h
  split at h <;> first | exact h.elim | skip
  all_goals (
    intro H locs lc hP hD hS hR
    exact lv_if_lt hx hb hdg ht (fun q => h.1 q H locs lc hP hD hS hR) (fun q => h.2 q H locs lc hP hD hS hR))
theorem ia_s_icmp_ge (hx : p.tables.exec = Jvm.exec) (hb : c.code = cc) {off : Int} (ht : (pc : Int) + off = (a : Int)) (hdg : decode cc pc = .ok (.if_icmp .ge off, 3)) (h : ia_pre C Z (ia_X p l e R s m args below meth c Q cells slots D cl A H0 Sh ad ca nL) (ia_f Sh (pc, .if_icmp .ge off, 3, a, b, w, v, ts) ls st hh)) : ia_X p l e R s m args below meth c Q cells slots D cl A H0 Sh ad ca nL (pc, ls, st, hh) := by
  simp only [ia_f] at h
  split at h <;> first | exact h.elim | skip
  all_goals (
    intro H locs lc hP hD hS hR
    exact lv_icmp_ge hx hb hdg ht (fun q => h.2 (Int32.not_lt.mpr q) H locs lc hP hD hS hR) (fun q => h.1 (Int32.not_le.mp q) H locs lc hP hD hS hR))
theorem ia_s_if_ge (hx : p.tables.exec = Jvm.exec) (hb : c.code = cc) {off : Int} (ht : (pc : Int) + off = (a : Int)) (hdg : decode cc pc = .ok (.ifCond .ge off, 3)) (h : ia_pre C Z (ia_X p l e R s m args below meth c Q cells slots D cl A H0 Sh ad ca nL) (ia_f Sh (pc, .ifCond .ge off, 3, a, b, w, v, ts) ls st hh)) : ia_X p l e R s m args below meth c Q cells slots D cl A H0 Sh ad ca nL (pc, ls, st, hh) := by
  simp only [ia_f] at h
  split at h <;> first | exact h.elim | skip
  all_goals (
    intro H locs lc hP hD hS hR
    exact lv_if_ge hx hb hdg ht (fun q => h.2 (Int32.not_lt.mpr q) H locs lc hP hD hS hR) (fun q => h.1 (Int32.not_le.mp q) H locs lc hP hD hS hR))
theorem ia_s_icmp_gt (hx : p.tables.exec = Jvm.exec) (hb : c.code = cc) {off : Int} (ht : (pc : Int) + off = (a : Int)) (hdg : decode cc pc = .ok (.if_icmp .gt off, 3)) (h : ia_pre C Z (ia_X p l e R s m args below meth c Q cells slots D cl A H0 Sh ad ca nL) (ia_f Sh (pc, .if_icmp .gt off, 3, a, b, w, v, ts) ls st hh)) : ia_X p l e R s m args below meth c Q cells slots D cl A H0 Sh ad ca nL (pc, ls, st, hh) := by
  simp only [ia_f] at h
  split at h <;> first | exact h.elim | skip
  all_goals (
    intro H locs lc hP hD hS hR
    exact lv_icmp_gt hx hb hdg ht (fun q => h.1 q H locs lc hP hD hS hR) (fun q => h.2 q H locs lc hP hD hS hR))
theorem ia_s_if_gt (hx : p.tables.exec = Jvm.exec) (hb : c.code = cc) {off : Int} (ht : (pc : Int) + off = (a : Int)) (hdg : decode cc pc = .ok (.ifCond .gt off, 3)) (h : ia_pre C Z (ia_X p l e R s m args below meth c Q cells slots D cl A H0 Sh ad ca nL) (ia_f Sh (pc, .ifCond .gt off, 3, a, b, w, v, ts) ls st hh)) : ia_X p l e R s m args below meth c Q cells slots D cl A H0 Sh ad ca nL (pc, ls, st, hh) := by
  simp only [ia_f] at h
  split at h <;> first | exact h.elim | skip
  all_goals (
    intro H locs lc hP hD hS hR
    exact lv_if_gt hx hb hdg ht (fun q => h.1 q H locs lc hP hD hS hR) (fun q => h.2 q H locs lc hP hD hS hR))
theorem ia_s_icmp_le (hx : p.tables.exec = Jvm.exec) (hb : c.code = cc) {off : Int} (ht : (pc : Int) + off = (a : Int)) (hdg : decode cc pc = .ok (.if_icmp .le off, 3)) (h : ia_pre C Z (ia_X p l e R s m args below meth c Q cells slots D cl A H0 Sh ad ca nL) (ia_f Sh (pc, .if_icmp .le off, 3, a, b, w, v, ts) ls st hh)) : ia_X p l e R s m args below meth c Q cells slots D cl A H0 Sh ad ca nL (pc, ls, st, hh) := by
  simp only [ia_f] at h
  split at h <;> first | exact h.elim | skip
  all_goals (
    intro H locs lc hP hD hS hR
    exact lv_icmp_le hx hb hdg ht (fun q => h.2 (Int32.not_lt.mpr q) H locs lc hP hD hS hR) (fun q => h.1 (Int32.not_le.mp q) H locs lc hP hD hS hR))
theorem ia_s_if_le (hx : p.tables.exec = Jvm.exec) (hb : c.code = cc) {off : Int} (ht : (pc : Int) + off = (a : Int)) (hdg : decode cc pc = .ok (.ifCond .le off, 3)) (h : ia_pre C Z (ia_X p l e R s m args below meth c Q cells slots D cl A H0 Sh ad ca nL) (ia_f Sh (pc, .ifCond .le off, 3, a, b, w, v, ts) ls st hh)) : ia_X p l e R s m args below meth c Q cells slots D cl A H0 Sh ad ca nL (pc, ls, st, hh) := by
  simp only [ia_f] at h
  split at h <;> first | exact h.elim | skip
  all_goals (
    intro H locs lc hP hD hS hR
    exact lv_if_le hx hb hdg ht (fun q => h.2 (Int32.not_lt.mpr q) H locs lc hP hD hS hR) (fun q => h.1 (Int32.not_le.mp q) H locs lc hP hD hS hR))
end IA
end
section
section IA2
variable {p : Program} {l : Launch} {e : Env} {R : Room} {s : State} {m : MethodId} {args : Array Value} {below : List Frame} {meth : Method} {c : Code} {Q : State → Prop} {cells slots : Nat}
variable {cc : ByteArray} {D : va_G} {cl : List vw_C} {A : Nat → Prop} {tys : List (ClassId × FieldType)} {H0 : Heap} {Sh : List ia_C} {ad : Nat → Nat} {ca : Nat → ClassId} {nL : Nat}
variable {C : Nat → List Value → ia_H → Option Value → ia_H → Prop} {Z : Option Value → ia_H → Prop} {pc a b w : Nat} {v : Value} {ts : List (Int × Nat)} {ls : ia_L} {st : List Value} {hh : ia_H}
/-- no array is longer than an int can count -/
def ia_Z (Sh : List ia_C) : Prop := ∀ (x : Nat) (ty : FieldType) (n : Nat), ia_at? Sh x = some (.inl (ty, n)) → n < 2 ^ 31
/-- each array cell's class is known -/
def ia_T (Sh : List ia_C) (ca : Nat → ClassId) (tys : List (ClassId × FieldType)) : Prop :=
  (∀ (x : Nat) (ty : FieldType) (n : Nat), ia_at? Sh x = some (.inl (ty, n)) → ∃ t0 : Nat, tys[t0]? = some (ca x, ty)) ∧ ∀ (x : Nat) (C : String) (l : List Nat), ia_at? Sh x = some (.inr (.inr (C, l))) → ∃ t0 : Nat, tys[t0]? = some (ca x, .object C)
theorem ia_s_iaload (hx : p.tables.exec = Jvm.exec) (hb : c.code = cc) (hK : va_K D cl tys s) (hT : ia_T Sh ca tys) (hZ : ia_Z Sh) (hdg : decode cc pc = .ok (.iaload, 1)) (h : ia_pre C Z (ia_X p l e R s m args below meth c Q cells slots D cl A H0 Sh ad ca nL) (ia_f Sh (pc, .iaload, 1, a, b, w, v, ts) ls st hh)) : ia_X p l e R s m args below meth c Q cells slots D cl A H0 Sh ad ca nL (pc, ls, st, hh) := by
  simp only [ia_f] at h
  split at h <;> first | exact h.elim | skip
  split at h <;> first | exact h.elim | skip
  rename_i hc
  obtain ⟨t0, ht0⟩ := hT.1 _ _ _ hc
  obtain ⟨j, ⟨hij, hj⟩, h⟩ := h
  have e0 : j = (nI j).toNatClampNeg := (nI_clamp (Nat.lt_trans hj (hZ _ _ _ hc))).symm
  rw [e0] at h
  subst hij
  intro H locs lc hP hD hS hR
  exact va_iald hx hb hK hP _ t0 (ia_w_at hc) ht0 (vp_in_nI hj (hZ _ _ _ hc)) hdg (h H locs lc hP hD hS hR)
theorem ia_s_laload (hx : p.tables.exec = Jvm.exec) (hb : c.code = cc) (hK : va_K D cl tys s) (hT : ia_T Sh ca tys) (hZ : ia_Z Sh) (hdg : decode cc pc = .ok (.laload, 1)) (h : ia_pre C Z (ia_X p l e R s m args below meth c Q cells slots D cl A H0 Sh ad ca nL) (ia_f Sh (pc, .laload, 1, a, b, w, v, ts) ls st hh)) : ia_X p l e R s m args below meth c Q cells slots D cl A H0 Sh ad ca nL (pc, ls, st, hh) := by
  simp only [ia_f] at h
  split at h <;> first | exact h.elim | skip
  split at h <;> first | exact h.elim | skip
  rename_i hc
  obtain ⟨t0, ht0⟩ := hT.1 _ _ _ hc
  obtain ⟨j, ⟨hij, hj⟩, h⟩ := h
  have e0 : j = (nI j).toNatClampNeg := (nI_clamp (Nat.lt_trans hj (hZ _ _ _ hc))).symm
  rw [e0] at h
  subst hij
  intro H locs lc hP hD hS hR
  exact va_lald hx hb hK hP _ t0 (ia_w_at hc) ht0 (vp_in_nI hj (hZ _ _ _ hc)) hdg (h H locs lc hP hD hS hR)
theorem ia_s_baload (hx : p.tables.exec = Jvm.exec) (hb : c.code = cc) (hK : va_K D cl tys s) (hT : ia_T Sh ca tys) (hZ : ia_Z Sh) (hdg : decode cc pc = .ok (.baload, 1)) (h : ia_pre C Z (ia_X p l e R s m args below meth c Q cells slots D cl A H0 Sh ad ca nL) (ia_f Sh (pc, .baload, 1, a, b, w, v, ts) ls st hh)) : ia_X p l e R s m args below meth c Q cells slots D cl A H0 Sh ad ca nL (pc, ls, st, hh) := by
  simp only [ia_f] at h
  split at h <;> first | exact h.elim | skip
  split at h <;> first | exact h.elim | skip
  · rename_i hc
    obtain ⟨t0, ht0⟩ := hT.1 _ _ _ hc
    obtain ⟨j, ⟨hij, hj⟩, h⟩ := h
    have e0 : j = (nI j).toNatClampNeg := (nI_clamp (Nat.lt_trans hj (hZ _ _ _ hc))).symm
    rw [e0] at h
    subst hij
    intro H locs lc hP hD hS hR
    exact va_bald hx hb hK hP _ t0 (ia_w_at hc) ht0 (vp_in_nI hj (hZ _ _ _ hc)) hdg (h H locs lc hP hD hS hR)
  · rename_i hc
    obtain ⟨t0, ht0⟩ := hT.1 _ _ _ hc
    obtain ⟨j, ⟨hij, hj⟩, h⟩ := h
    have e0 : j = (nI j).toNatClampNeg := (nI_clamp (Nat.lt_trans hj (hZ _ _ _ hc))).symm
    rw [e0] at h
    subst hij
    intro H locs lc hP hD hS hR
    exact va_zald hx hb hK hP _ t0 (ia_w_at hc) ht0 (vp_in_nI hj (hZ _ _ _ hc)) hdg (h H locs lc hP hD hS hR)
theorem ia_s_iastore (hx : p.tables.exec = Jvm.exec) (hb : c.code = cc) (hK : va_K D cl tys s) (hT : ia_T Sh ca tys) (hZ : ia_Z Sh) (hdg : decode cc pc = .ok (.iastore, 1)) (h : ia_pre C Z (ia_X p l e R s m args below meth c Q cells slots D cl A H0 Sh ad ca nL) (ia_f Sh (pc, .iastore, 1, a, b, w, v, ts) ls st hh)) : ia_X p l e R s m args below meth c Q cells slots D cl A H0 Sh ad ca nL (pc, ls, st, hh) := by
  simp only [ia_f] at h
  split at h <;> first | exact h.elim | skip
  split at h <;> first | exact h.elim | skip
  rename_i z i x st' _ n hc
  obtain ⟨t0, ht0⟩ := hT.1 _ _ _ hc
  obtain ⟨j, ⟨hij, hj⟩, h⟩ := h
  have e0 : j = (nI j).toNatClampNeg := (nI_clamp (Nat.lt_trans hj (hZ _ _ _ hc))).symm
  rw [e0] at h
  subst hij
  intro H locs lc hP hD hS hR
  have e := ia_w_set (ad := ad) (ca := ca) (h := hh) (h' := (ia_uI hh.1 x (nI j).toNatClampNeg z, hh.2)) hc (fun y hy => ia_uI_ne hy) (fun y _ => rfl) (v := .inl (ca x, n, .inl (upd (hh.1 x) (nI j).toNatClampNeg z))) (by simp only [ia_cell, ia_uI, if_true])
  exact va_iast hx hb hK hP hD hS _ t0 (ia_w_at hc) ht0 (vp_in_nI hj (hZ _ _ _ hc)) hdg (fun H1 locs1 hP1 hD1 hS1 => h H1 locs1 lc (e ▸ hP1) (e ▸ hD1) hS1 hR)
theorem ia_s_bastore (hx : p.tables.exec = Jvm.exec) (hb : c.code = cc) (hK : va_K D cl tys s) (hT : ia_T Sh ca tys) (hZ : ia_Z Sh) (hdg : decode cc pc = .ok (.bastore, 1)) (h : ia_pre C Z (ia_X p l e R s m args below meth c Q cells slots D cl A H0 Sh ad ca nL) (ia_f Sh (pc, .bastore, 1, a, b, w, v, ts) ls st hh)) : ia_X p l e R s m args below meth c Q cells slots D cl A H0 Sh ad ca nL (pc, ls, st, hh) := by
  simp only [ia_f] at h
  split at h <;> first | exact h.elim | skip
  split at h <;> first | exact h.elim | skip
  · rename_i z i x st' _ n hc
    obtain ⟨t0, ht0⟩ := hT.1 _ _ _ hc
    obtain ⟨j, ⟨hij, hj⟩, h⟩ := h
    have e0 : j = (nI j).toNatClampNeg := (nI_clamp (Nat.lt_trans hj (hZ _ _ _ hc))).symm
    rw [e0] at h
    subst hij
    intro H locs lc hP hD hS hR
    have e := ia_w_set (ad := ad) (ca := ca) (h := hh) (h' := (ia_uI hh.1 x (nI j).toNatClampNeg (vp_nar .byte z), hh.2)) hc (fun y hy => ia_uI_ne hy) (fun y _ => rfl) (v := .inl (ca x, n, .inl (upd (hh.1 x) (nI j).toNatClampNeg (vp_nar .byte z)))) (by simp only [ia_cell, ia_uI, if_true])
    exact va_bast hx hb hK hP hD hS _ t0 (ia_w_at hc) ht0 (vp_in_nI hj (hZ _ _ _ hc)) hdg (fun H1 locs1 hP1 hD1 hS1 => h H1 locs1 lc (e ▸ hP1) (e ▸ hD1) hS1 hR)
  · rename_i z i x st' _ n hc
    obtain ⟨t0, ht0⟩ := hT.1 _ _ _ hc
    obtain ⟨j, ⟨hij, hj⟩, h⟩ := h
    have e0 : j = (nI j).toNatClampNeg := (nI_clamp (Nat.lt_trans hj (hZ _ _ _ hc))).symm
    rw [e0] at h
    subst hij
    intro H locs lc hP hD hS hR
    have e := ia_w_set (ad := ad) (ca := ca) (h := hh) (h' := (ia_uI hh.1 x (nI j).toNatClampNeg (vp_nar .boolean z), hh.2)) hc (fun y hy => ia_uI_ne hy) (fun y _ => rfl) (v := .inl (ca x, n, .inl (upd (hh.1 x) (nI j).toNatClampNeg (vp_nar .boolean z)))) (by simp only [ia_cell, ia_uI, if_true])
    exact va_zast hx hb hK hP hD hS _ t0 (ia_w_at hc) ht0 (vp_in_nI hj (hZ _ _ _ hc)) hdg (fun H1 locs1 hP1 hD1 hS1 => h H1 locs1 lc (e ▸ hP1) (e ▸ hD1) hS1 hR)
theorem ia_s_lastore (hx : p.tables.exec = Jvm.exec) (hb : c.code = cc) (hK : va_K D cl tys s) (hT : ia_T Sh ca tys) (hZ : ia_Z Sh) (hdg : decode cc pc = .ok (.lastore, 1)) (h : ia_pre C Z (ia_X p l e R s m args below meth c Q cells slots D cl A H0 Sh ad ca nL) (ia_f Sh (pc, .lastore, 1, a, b, w, v, ts) ls st hh)) : ia_X p l e R s m args below meth c Q cells slots D cl A H0 Sh ad ca nL (pc, ls, st, hh) := by
  simp only [ia_f] at h
  split at h <;> first | exact h.elim | skip
  split at h <;> first | exact h.elim | skip
  rename_i z i x st' _ n hc
  obtain ⟨t0, ht0⟩ := hT.1 _ _ _ hc
  obtain ⟨j, ⟨hij, hj⟩, h⟩ := h
  have e0 : j = (nI j).toNatClampNeg := (nI_clamp (Nat.lt_trans hj (hZ _ _ _ hc))).symm
  rw [e0] at h
  subst hij
  intro H locs lc hP hD hS hR
  have e := ia_w_set (ad := ad) (ca := ca) (h := hh) (h' := (hh.1, ia_uL hh.2 x (nI j).toNatClampNeg z)) hc (fun y _ => rfl) (fun y hy => ia_uL_ne hy) (v := .inl (ca x, n, .inr (.inl (vp_updL (hh.2 x) (nI j).toNatClampNeg z)))) (by simp only [ia_cell, ia_uL, if_true])
  exact va_last hx hb hK hP hD hS _ t0 (ia_w_at hc) ht0 (vp_in_nI hj (hZ _ _ _ hc)) hdg (fun H1 locs1 hP1 hD1 hS1 => h H1 locs1 lc (e ▸ hP1) (e ▸ hD1) hS1 hR)
theorem ia_s_arraylength (hx : p.tables.exec = Jvm.exec) (hb : c.code = cc) (hK : va_K D cl tys s) (hT : ia_T Sh ca tys) (hZ : ia_Z Sh) (hdg : decode cc pc = .ok (.arraylength, 1)) (h : ia_pre C Z (ia_X p l e R s m args below meth c Q cells slots D cl A H0 Sh ad ca nL) (ia_f Sh (pc, .arraylength, 1, a, b, w, v, ts) ls st hh)) : ia_X p l e R s m args below meth c Q cells slots D cl A H0 Sh ad ca nL (pc, ls, st, hh) := by
  simp only [ia_f] at h
  split at h <;> first | exact h.elim | skip
  split at h <;> first | exact h.elim | skip
  · rename_i x st' _ ty n hc
    obtain ⟨t0, ht0⟩ := hT.1 _ _ _ hc
    intro H locs lc hP hD hS hR
    have hw := ia_w_at (ad := ad) (ca := ca) (h := hh) hc
    cases ty <;> exact va_alen hx hb hK hP _ t0 hw ht0 rfl hdg (h H locs lc hP hD hS hR)
  · rename_i x st' _ C0 n hc
    obtain ⟨t0, ht0⟩ := hT.2 _ _ _ hc
    intro H locs lc hP hD hS hR
    exact va_alen hx hb hK hP _ t0 (ia_w_at hc) ht0 rfl hdg (h H locs lc hP hD hS hR)
theorem ia_pick_lt : ∀ {l : List Nat} {j : Nat}, j < l.length → ∃ x, ia_pick l j = some x
  | [], _, h => by simp at h
  | x :: _, 0, _ => ⟨x, rfl⟩
  | _ :: l, j + 1, h => ia_pick_lt (l := l) (j := j) (by simp at h; omega)
theorem ia_s_aaload (hx : p.tables.exec = Jvm.exec) (hb : c.code = cc) (hK : va_K D cl tys s) (hT : ia_T Sh ca tys) (hl : ∀ x C l, ia_at? Sh x = some (.inr (.inr (C, l))) → l.length < 2 ^ 31) (hdg : decode cc pc = .ok (.aaload, 1)) (h : ia_pre C Z (ia_X p l e R s m args below meth c Q cells slots D cl A H0 Sh ad ca nL) (ia_f Sh (pc, .aaload, 1, a, b, w, v, ts) ls st hh)) : ia_X p l e R s m args below meth c Q cells slots D cl A H0 Sh ad ca nL (pc, ls, st, hh) := by
  simp only [ia_f] at h
  split at h <;> first | exact h.elim | skip
  split at h <;> first | exact h.elim | skip
  rename_i i x st' _ C0 l0 hc
  obtain ⟨t0, ht0⟩ := hT.2 _ _ _ hc
  intro H locs lc hP hD hS hR
  obtain ⟨j, ⟨hij, hj⟩, hX⟩ := h
  obtain ⟨y, hy⟩ := ia_pick_lt hj
  have hij2 : i.toNatClampNeg = j := by rw [hij]; exact nI_clamp (Nat.lt_trans hj (hl _ _ _ hc))
  refine va_aldq hx hb hK hP _ t0 (ia_w_at hc) ht0 (by rw [hij]; exact vp_in_nI hj (hl _ _ _ hc)) hdg ?_
  simp only [hy] at hX
  rw [hij2, hy]
  exact hX H locs lc hP hD hS hR
theorem ia_beq {x y : Nat} (h : Nat.beq x y = true) : x = y := Nat.eq_of_beq_eq_true h
/-- what the tables say of a class of the list -/
def ia_Cl (Ts : List Cond) (cl : List vw_C) (ty0 : Nat → Nat → FieldType) : Prop := ∀ (ci : Nat) (q : vw_C), cl[ci]? = some q → (∀ w ∈ u_ws q.1 q.2.1 q.2.2, w ∈ Ts) ∧ (∀ k, k < q.2.2 → parseFieldDescriptor (q.2.1 k).2.2.1 = some (ty0 ci k)) ∧ ∀ a, a < q.2.2 → ∀ b, b < q.2.2 → a ≠ b → (q.2.1 a).2.1 ≠ (q.2.1 b).2.1
theorem ia_s_getfield (hx : p.tables.exec = Jvm.exec) (hb : c.code = cc) {own : String} {idx : Nat} {Ts : List Cond} {ty0 : Nat → Nat → FieldType} {q : vw_C} (hts : ∀ w ∈ Ts, w.before args s = true) (hown : s.vm.findClass own = some m.cls) (hK : va_K D cl tys s) (hCl : ia_Cl Ts cl ty0) (hq : cl[a]? = some q) (hbN : b < q.2.2) (hlink : (Cond.fieldLink own idx (q.2.1 b).1 (q.2.1 b).2.1 (q.2.1 b).2.2.1).before args s = true) (hdg : decode cc pc = .ok (.getfield idx, 3)) (h : ia_pre C Z (ia_X p l e R s m args below meth c Q cells slots D cl A H0 Sh ad ca nL) (ia_f Sh (pc, .getfield idx, 3, a, b, w, v, ts) ls st hh)) : ia_X p l e R s m args below meth c Q cells slots D cl A H0 Sh ad ca nL (pc, ls, st, hh) := by
  simp only [ia_f] at h
  split at h <;> first | exact h.elim | skip
  rename_i x st'
  split at h <;> first | exact h.elim | skip
  rename_i ci ks hc
  cases hbe : Nat.beq ci a with
  | false => rw [hbe] at h; exact h.elim
  | true =>
    rw [hbe] at h
    have hci := ia_beq hbe
    subst hci
    simp only [cond_true] at h
    intro H locs lc hP hD hS hR
    have hw := ia_w_at (ad := ad) (ca := ca) (h := hh) hc
    split at h <;> first | exact h.elim | skip
    · rename_i y hk
      exact va_get hx hb hts (hCl _ _ hq).1 hown hK hP x hw hq b hbN hlink (fun _ h9 => h9) (v := .ref (ad y)) (by rw [ia_slots_get, hk]; simp only [Option.map_some, ia_slot]) hdg (h H locs lc hP hD hS hR)
    · rename_i hk
      exact va_get hx hb hts (hCl _ _ hq).1 hown hK hP x hw hq b hbN hlink (fun _ h9 => h9) (v := .int (hh.1 x b)) (by rw [ia_slots_get, hk, Nat.zero_add]; simp only [Option.map_some, ia_slot]) hdg (h H locs lc hP hD hS hR)
    · rename_i hk
      exact va_get hx hb hts (hCl _ _ hq).1 hown hK hP x hw hq b hbN hlink (fun _ h9 => h9) (v := .long (hh.2 x b)) (by rw [ia_slots_get, hk, Nat.zero_add]; simp only [Option.map_some, ia_slot]) hdg (h H locs lc hP hD hS hR)
theorem ia_s_putfield (hx : p.tables.exec = Jvm.exec) (hb : c.code = cc) {own : String} {idx : Nat} {Ts : List Cond} {ty0 : Nat → Nat → FieldType} {q : vw_C} (hts : ∀ w ∈ Ts, w.before args s = true) (hown : s.vm.findClass own = some m.cls) (hK : va_K D cl tys s) (hCl : ia_Cl Ts cl ty0) (hq : cl[a]? = some q) (hbN : b < q.2.2) (hlink : (Cond.fieldLink own idx (q.2.1 b).1 (q.2.1 b).2.1 (q.2.1 b).2.2.1).before args s = true) (hfin : (q.2.1 b).2.2.2 = false) (hkd : ∀ x ci ks, ia_at? Sh x = some (.inr (.inl (ci, ks))) → ci = a → (ia_kind ks b = some (.inr false) → ty0 a b = .int) ∧ (ia_kind ks b = some (.inr true) → ty0 a b = .long)) (hdg : decode cc pc = .ok (.putfield idx, 3)) (h : ia_pre C Z (ia_X p l e R s m args below meth c Q cells slots D cl A H0 Sh ad ca nL) (ia_f Sh (pc, .putfield idx, 3, a, b, w, v, ts) ls st hh)) : ia_X p l e R s m args below meth c Q cells slots D cl A H0 Sh ad ca nL (pc, ls, st, hh) := by
  simp only [ia_f] at h
  split at h <;> first | exact h.elim | skip
  · rename_i z x st'
    split at h <;> first | exact h.elim | skip
    rename_i ci ks hc
    cases hbe : Nat.beq ci a with
    | false => rw [hbe] at h; exact h.elim
    | true =>
      rw [hbe] at h
      have hci := ia_beq hbe
      subst hci
      simp only [cond_true] at h
      split at h <;> first | exact h.elim | skip
      rename_i hk
      intro H locs lc hP hD hS hR
      have hw := ia_w_at (ad := ad) (ca := ca) (h := hh) hc
      have hlen : b < (ia_slots ad hh x 0 ks).length := by
        have e : (ia_slots ad hh x 0 ks)[b]? = some (ia_slot ad hh x (0 + b) (.inr false)) := by rw [ia_slots_get, hk]; rfl
        exact (List.getElem?_eq_some_iff.mp e).1
      have e := ia_w_set (ad := ad) (ca := ca) (h := hh) (h' := (ia_uI hh.1 x b z, hh.2)) hc (fun y hy => ia_uI_ne hy) (fun y _ => rfl) (v := .inr (ci, (ia_slots ad hh x 0 ks).set b (.int z))) (by simp only [ia_cell, ia_slots_setI hk])
      exact va_put hx hb hts (hCl _ _ hq).1 (ty0 ci) (hCl _ _ hq).2.1 (hCl _ _ hq).2.2 hown hK hP hD hS x hw hq b hbN hlink (fun _ h9 => h9) hfin (ty := .int) (v := .int z) (by rw [(hCl _ _ hq).2.1 b hbN, (hkd _ _ _ hc rfl).1 hk]) rfl rfl hlen hdg (fun H1 locs1 hP1 hD1 hS1 => h H1 locs1 lc (e ▸ hP1) (e ▸ hD1) hS1 hR)
  · rename_i z x st'
    split at h <;> first | exact h.elim | skip
    rename_i ci ks hc
    cases hbe : Nat.beq ci a with
    | false => rw [hbe] at h; exact h.elim
    | true =>
      rw [hbe] at h
      have hci := ia_beq hbe
      subst hci
      simp only [cond_true] at h
      split at h <;> first | exact h.elim | skip
      rename_i hk
      intro H locs lc hP hD hS hR
      have hw := ia_w_at (ad := ad) (ca := ca) (h := hh) hc
      have hlen : b < (ia_slots ad hh x 0 ks).length := by
        have e : (ia_slots ad hh x 0 ks)[b]? = some (ia_slot ad hh x (0 + b) (.inr true)) := by rw [ia_slots_get, hk]; rfl
        exact (List.getElem?_eq_some_iff.mp e).1
      have e := ia_w_set (ad := ad) (ca := ca) (h := hh) (h' := (hh.1, ia_uL hh.2 x b z)) hc (fun y _ => rfl) (fun y hy => ia_uL_ne hy) (v := .inr (ci, (ia_slots ad hh x 0 ks).set b (.long z))) (by simp only [ia_cell, ia_slots_setL hk])
      exact va_put hx hb hts (hCl _ _ hq).1 (ty0 ci) (hCl _ _ hq).2.1 (hCl _ _ hq).2.2 hown hK hP hD hS x hw hq b hbN hlink (fun _ h9 => h9) hfin (ty := .long) (v := .long z) (by rw [(hCl _ _ hq).2.1 b hbN, (hkd _ _ _ hc rfl).2 hk]) rfl rfl hlen hdg (fun H1 locs1 hP1 hD1 hS1 => h H1 locs1 lc (e ▸ hP1) (e ▸ hD1) hS1 hR)
theorem ia_s_getfieldN (hx : p.tables.exec = Jvm.exec) (hb : c.code = cc) {own : String} {idx : Nat} {Ts : List Cond} {ty0 : Nat → Nat → FieldType} {q : vw_C} (hts : ∀ w ∈ Ts, w.before args s = true) (hown : s.vm.findClass own = some m.cls) (hK : va_K D cl tys s) (hCl : ia_Cl Ts cl ty0) (hq : cl[a]? = some q) (hbN : b < q.2.2) {host : String} (hlink : (Cond.fieldLinkNest own idx (q.2.1 b).1 (q.2.1 b).2.1 (q.2.1 b).2.2.1 host).before args s = true) (hdg : decode cc pc = .ok (.getfield idx, 3)) (h : ia_pre C Z (ia_X p l e R s m args below meth c Q cells slots D cl A H0 Sh ad ca nL) (ia_f Sh (pc, .getfield idx, 3, a, b, w, v, ts) ls st hh)) : ia_X p l e R s m args below meth c Q cells slots D cl A H0 Sh ad ca nL (pc, ls, st, hh) := by
  simp only [ia_f] at h
  split at h <;> first | exact h.elim | skip
  rename_i x st'
  split at h <;> first | exact h.elim | skip
  rename_i ci ks hc
  cases hbe : Nat.beq ci a with
  | false => rw [hbe] at h; exact h.elim
  | true =>
    rw [hbe] at h
    have hci := ia_beq hbe
    subst hci
    simp only [cond_true] at h
    intro H locs lc hP hD hS hR
    have hw := ia_w_at (ad := ad) (ca := ca) (h := hh) hc
    split at h <;> first | exact h.elim | skip
    · rename_i y hk
      exact va_getN hx hb hts (hCl _ _ hq).1 hown hK hP x hw hq b hbN hlink (fun _ h9 => h9) (v := .ref (ad y)) (by rw [ia_slots_get, hk]; simp only [Option.map_some, ia_slot]) hdg (h H locs lc hP hD hS hR)
    · rename_i hk
      exact va_getN hx hb hts (hCl _ _ hq).1 hown hK hP x hw hq b hbN hlink (fun _ h9 => h9) (v := .int (hh.1 x b)) (by rw [ia_slots_get, hk, Nat.zero_add]; simp only [Option.map_some, ia_slot]) hdg (h H locs lc hP hD hS hR)
    · rename_i hk
      exact va_getN hx hb hts (hCl _ _ hq).1 hown hK hP x hw hq b hbN hlink (fun _ h9 => h9) (v := .long (hh.2 x b)) (by rw [ia_slots_get, hk, Nat.zero_add]; simp only [Option.map_some, ia_slot]) hdg (h H locs lc hP hD hS hR)
theorem ia_s_putfieldN (hx : p.tables.exec = Jvm.exec) (hb : c.code = cc) {own : String} {idx : Nat} {Ts : List Cond} {ty0 : Nat → Nat → FieldType} {q : vw_C} (hts : ∀ w ∈ Ts, w.before args s = true) (hown : s.vm.findClass own = some m.cls) (hK : va_K D cl tys s) (hCl : ia_Cl Ts cl ty0) (hq : cl[a]? = some q) (hbN : b < q.2.2) {host : String} (hlink : (Cond.fieldLinkNest own idx (q.2.1 b).1 (q.2.1 b).2.1 (q.2.1 b).2.2.1 host).before args s = true) (hfin : (q.2.1 b).2.2.2 = false) (hkd : ∀ x ci ks, ia_at? Sh x = some (.inr (.inl (ci, ks))) → ci = a → (ia_kind ks b = some (.inr false) → ty0 a b = .int) ∧ (ia_kind ks b = some (.inr true) → ty0 a b = .long)) (hdg : decode cc pc = .ok (.putfield idx, 3)) (h : ia_pre C Z (ia_X p l e R s m args below meth c Q cells slots D cl A H0 Sh ad ca nL) (ia_f Sh (pc, .putfield idx, 3, a, b, w, v, ts) ls st hh)) : ia_X p l e R s m args below meth c Q cells slots D cl A H0 Sh ad ca nL (pc, ls, st, hh) := by
  simp only [ia_f] at h
  split at h <;> first | exact h.elim | skip
  · rename_i z x st'
    split at h <;> first | exact h.elim | skip
    rename_i ci ks hc
    cases hbe : Nat.beq ci a with
    | false => rw [hbe] at h; exact h.elim
    | true =>
      rw [hbe] at h
      have hci := ia_beq hbe
      subst hci
      simp only [cond_true] at h
      split at h <;> first | exact h.elim | skip
      rename_i hk
      intro H locs lc hP hD hS hR
      have hw := ia_w_at (ad := ad) (ca := ca) (h := hh) hc
      have hlen : b < (ia_slots ad hh x 0 ks).length := by
        have e : (ia_slots ad hh x 0 ks)[b]? = some (ia_slot ad hh x (0 + b) (.inr false)) := by rw [ia_slots_get, hk]; rfl
        exact (List.getElem?_eq_some_iff.mp e).1
      have e := ia_w_set (ad := ad) (ca := ca) (h := hh) (h' := (ia_uI hh.1 x b z, hh.2)) hc (fun y hy => ia_uI_ne hy) (fun y _ => rfl) (v := .inr (ci, (ia_slots ad hh x 0 ks).set b (.int z))) (by simp only [ia_cell, ia_slots_setI hk])
      exact va_putN hx hb hts (hCl _ _ hq).1 (ty0 ci) (hCl _ _ hq).2.1 (hCl _ _ hq).2.2 hown hK hP hD hS x hw hq b hbN hlink (fun _ h9 => h9) hfin (ty := .int) (v := .int z) (by rw [(hCl _ _ hq).2.1 b hbN, (hkd _ _ _ hc rfl).1 hk]) rfl rfl hlen hdg (fun H1 locs1 hP1 hD1 hS1 => h H1 locs1 lc (e ▸ hP1) (e ▸ hD1) hS1 hR)
  · rename_i z x st'
    split at h <;> first | exact h.elim | skip
    rename_i ci ks hc
    cases hbe : Nat.beq ci a with
    | false => rw [hbe] at h; exact h.elim
    | true =>
      rw [hbe] at h
      have hci := ia_beq hbe
      subst hci
      simp only [cond_true] at h
      split at h <;> first | exact h.elim | skip
      rename_i hk
      intro H locs lc hP hD hS hR
      have hw := ia_w_at (ad := ad) (ca := ca) (h := hh) hc
      have hlen : b < (ia_slots ad hh x 0 ks).length := by
        have e : (ia_slots ad hh x 0 ks)[b]? = some (ia_slot ad hh x (0 + b) (.inr true)) := by rw [ia_slots_get, hk]; rfl
        exact (List.getElem?_eq_some_iff.mp e).1
      have e := ia_w_set (ad := ad) (ca := ca) (h := hh) (h' := (hh.1, ia_uL hh.2 x b z)) hc (fun y _ => rfl) (fun y hy => ia_uL_ne hy) (v := .inr (ci, (ia_slots ad hh x 0 ks).set b (.long z))) (by simp only [ia_cell, ia_slots_setL hk])
      exact va_putN hx hb hts (hCl _ _ hq).1 (ty0 ci) (hCl _ _ hq).2.1 (hCl _ _ hq).2.2 hown hK hP hD hS x hw hq b hbN hlink (fun _ h9 => h9) hfin (ty := .long) (v := .long z) (by rw [(hCl _ _ hq).2.1 b hbN, (hkd _ _ _ hc rfl).2 hk]) rfl rfl hlen hdg (fun H1 locs1 hP1 hD1 hS1 => h H1 locs1 lc (e ▸ hP1) (e ▸ hD1) hS1 hR)
end IA2
end
section
/-! switches, calls, ends -/
def ia_tg (x : Int32) (d : Nat) : List (Int × Nat) → Nat
  | [] => d
  | (k, t) :: ts => if x = Int32.ofInt k then t else ia_tg x d ts
theorem ia_sw_tg {X : ia_S → Prop} {x : Int32} {d : Nat} {ls : ia_L} {st : List Value} {h : ia_H} : ∀ {ts : List (Int × Nat)}, ia_sw X x d ls st h ts → X (ia_tg x d ts, ls, st, h)
  | [], hx => hx
  | (k, t) :: ts, hx => by
    by_cases hk : x = Int32.ofInt k
    · rw [ia_tg, if_pos hk]; exact hx.1 hk
    · rw [ia_tg, if_neg hk]; exact ia_sw_tg (hx.2 hk)
def ia_ts (pc : Nat) : Int → List Int → List (Int × Nat)
  | _, [] => []
  | lo, o :: os => (lo, ((pc : Int) + o).toNat) :: ia_ts pc (lo + 1) os
theorem ia_key {x : Int32} {k : Int} (h1 : -2 ^ 31 ≤ k) (h2 : k < 2 ^ 31) : x = Int32.ofInt k ↔ x.toInt = k := by
  rw [← Int32.toInt_inj, Int32.toInt_ofInt_of_le h1 h2]
theorem ia_tg_ts {pc d : Nat} {x : Int32} : ∀ {os : List Int} {lo : Int}, (∀ o ∈ os, 0 ≤ (pc : Int) + o) → -2 ^ 31 ≤ lo → lo + os.length ≤ 2 ^ 31 →
    (x.toInt < lo ∨ lo + os.length ≤ x.toInt → ia_tg x d (ia_ts pc lo os) = d) ∧ (lo ≤ x.toInt → x.toInt < lo + os.length → ∃ off, os[(x.toInt - lo).toNat]? = some off ∧ (pc : Int) + off = (ia_tg x d (ia_ts pc lo os) : Nat))
  | [], lo, _, _, _ => ⟨fun _ => rfl, fun h1 h2 => by simp at h2; omega⟩
  | o :: os, lo, h0, h1, h2 => by
    simp only [List.length_cons, Int.natCast_add, Int.cast_ofNat_Int] at h2
    obtain ⟨i1, i2⟩ := ia_tg_ts (pc := pc) (d := d) (x := x) (os := os) (lo := lo + 1) (fun q hq => h0 q (List.mem_cons_of_mem _ hq)) (by omega) (by omega)
    have hk := ia_key (x := x) (k := lo) h1 (by omega)
    simp only [ia_ts, ia_tg, List.length_cons, Int.natCast_add, Int.cast_ofNat_Int]
    by_cases he : x.toInt = lo
    · rw [if_pos (hk.mpr he)]
      refine ⟨fun q => by omega, fun _ _ => ⟨o, by rw [he]; simp, ?_⟩⟩
      have := h0 o List.mem_cons_self
      omega
    · rw [if_neg (fun q => he (hk.mp q))]
      refine ⟨fun q => i1 (by omega), fun q1 q2 => ?_⟩
      obtain ⟨off, e1, e2⟩ := i2 (by omega) (by omega)
      refine ⟨off, ?_, e2⟩
      rw [show (x.toInt - lo).toNat = (x.toInt - (lo + 1)).toNat + 1 by omega, List.getElem?_cons_succ]
      exact e1
def ia_lt (pc : Nat) : List (Int × Int) → List (Int × Nat)
  | [] => []
  | (k, o) :: os => (k, ((pc : Int) + o).toNat) :: ia_lt pc os
theorem ia_tg_lt {pc d : Nat} {x : Int32} {dflt : Int} (hd : (pc : Int) + dflt = d) : ∀ {os : List (Int × Int)}, (∀ o ∈ os, 0 ≤ (pc : Int) + o.2 ∧ -2 ^ 31 ≤ o.1 ∧ o.1 < 2 ^ 31) → (pc : Int) + Op.lookupswitch.offset os dflt x.toInt = (ia_tg x d (ia_lt pc os) : Nat)
  | [], _ => hd
  | (k, o) :: os, h0 => by
    obtain ⟨a1, a2, a3⟩ := h0 (k, o) List.mem_cons_self
    have hk := ia_key (x := x) a2 a3
    rw [Op.lookupswitch.offset_cons, ia_lt, ia_tg]
    by_cases he : x.toInt = k
    · rw [if_pos (hk.mpr he), if_pos (by first | exact he | exact he.symm)]
      simp only at a1
      omega
    · rw [if_neg (fun q => he (hk.mp q)), if_neg (by first | exact he | exact fun q => he q.symm)]
      exact ia_tg_lt hd (fun q hq => h0 q (List.mem_cons_of_mem _ hq))
theorem ia_pop_spec : ∀ {n : Nat} {acc st as r : List Value}, ia_pop n acc st = some (as, r) → ∃ f : List Value, f.length = n ∧ st = f ++ r ∧ as = f.reverse ++ acc
  | 0, acc, st, as, r, h => by
    simp only [ia_pop] at h
    cases h
    exact ⟨[], rfl, rfl, rfl⟩
  | n + 1, acc, [], as, r, h => by cases h
  | n + 1, acc, v :: st, as, r, h => by
    obtain ⟨f, h1, h2, h3⟩ := ia_pop_spec (n := n) (acc := v :: acc) (st := st) h
    exact ⟨v :: f, by simp [h1], by rw [h2]; rfl, by rw [h3]; simp⟩
theorem ia_sum4 (ad : Nat → Nat) : ∀ (st : List Value), ((st.map (ia_v ad)).map fun v => v.category).sum ≤ 2 * st.length
  | [] => by simp
  | v :: st => by
    have := ia_sum4 ad st
    have h2 : (ia_v ad v).category ≤ 2 := by rcases lv_cat (ia_v ad v) with q | q <;> omega
    simp only [List.map_cons, List.sum_cons, List.length_cons]
    omega
section IA3
variable {p : Program} {l : Launch} {e : Env} {R : Room} {s : State} {m : MethodId} {args : Array Value} {below : List Frame} {meth : Method} {c : Code} {Q : State → Prop} {cells slots : Nat}
variable {cc : ByteArray} {D : va_G} {cl : List vw_C} {A : Nat → Prop} {tys : List (ClassId × FieldType)} {H0 : Heap} {Sh : List ia_C} {ad : Nat → Nat} {ca : Nat → ClassId} {nL : Nat}
variable {C : Nat → List Value → ia_H → Option Value → ia_H → Prop} {Z : Option Value → ia_H → Prop} {pc a b w : Nat} {v : Value} {ts : List (Int × Nat)} {ls : ia_L} {st : List Value} {hh : ia_H}
theorem ia_s_tableswitch (hx : p.tables.exec = Jvm.exec) (hb : c.code = cc) {dflt lo hi : Int} {offs : Array Int} {len : Nat} (ht : (pc : Int) + dflt = (a : Int)) (h0 : ∀ o ∈ offs.toList, 0 ≤ (pc : Int) + o) (h1 : -2 ^ 31 ≤ lo) (h2 : hi + 1 ≤ 2 ^ 31) (h3 : lo + offs.toList.length = hi + 1) (hts : ts = ia_ts pc lo offs.toList) (hdg : decode cc pc = .ok (.tableswitch dflt lo hi offs, len)) (h : ia_pre C Z (ia_X p l e R s m args below meth c Q cells slots D cl A H0 Sh ad ca nL) (ia_f Sh (pc, .tableswitch dflt lo hi offs, len, a, b, w, v, ts) ls st hh)) : ia_X p l e R s m args below meth c Q cells slots D cl A H0 Sh ad ca nL (pc, ls, st, hh) := by
  simp only [ia_f] at h
  split at h <;> first | exact h.elim | skip
  rename_i x st'
  intro H locs lc hP hD hS hR
  have hX := ia_sw_tg h H locs lc hP hD hS hR
  obtain ⟨g1, g2⟩ := ia_tg_ts (pc := pc) (d := a) (x := x) h0 h1 (by omega)
  by_cases hr : x.toInt < lo ∨ hi < x.toInt
  · rw [hts, g1 (by omega)] at hX
    exact lv_tableOut hx hb hdg hr ht hX
  · obtain ⟨off, e1, e2⟩ := g2 (by omega) (by omega)
    rw [hts] at hX
    exact lv_tableIn hx hb hdg (by omega) (by omega) (off := off) (by rw [← Array.getElem?_toList]; exact e1) e2 hX
theorem ia_s_lookupswitch (hx : p.tables.exec = Jvm.exec) (hb : c.code = cc) {dflt : Int} {ps : Array (Int × Int)} {len : Nat} (ht : (pc : Int) + dflt = (a : Int)) (hp : (ps.toList.zip (ps.toList.drop 1)).all (fun (a, next) => a.1 < next.1) = true) (h0 : ∀ o ∈ ps.toList, 0 ≤ (pc : Int) + o.2 ∧ -2 ^ 31 ≤ o.1 ∧ o.1 < 2 ^ 31) (hts : ts = ia_lt pc ps.toList) (hdg : decode cc pc = .ok (.lookupswitch dflt ps, len)) (h : ia_pre C Z (ia_X p l e R s m args below meth c Q cells slots D cl A H0 Sh ad ca nL) (ia_f Sh (pc, .lookupswitch dflt ps, len, a, b, w, v, ts) ls st hh)) : ia_X p l e R s m args below meth c Q cells slots D cl A H0 Sh ad ca nL (pc, ls, st, hh) := by
  simp only [ia_f] at h
  split at h <;> first | exact h.elim | skip
  rename_i x st'
  intro H locs lc hP hD hS hR
  have hX := ia_sw_tg h H locs lc hP hD hS hR
  rw [hts] at hX
  exact lv_lookup hx hb hdg hp rfl (ia_tg_lt ht h0) hX
def ia_Wd (D : va_G) (cl : List vw_C) (tys : List (ClassId × FieldType)) (Sh : List ia_C) (ad : Nat → Nat) (ca : Nat → ClassId) (h : ia_H) (t : State) : Prop := va_P D cl (ia_w ad ca h 0 Sh) t.heap ∧ va_K D cl tys t
def ia_Post (D : va_G) (cl : List vw_C) (tys : List (ClassId × FieldType)) (Sh : List ia_C) (ad : Nat → Nat) (ca : Nat → ClassId) (A : Nat → Prop) (r : Option Value) (h : ia_H) : Array Value → State → Outcome → State → Prop := match r with
  | none => va_Qv (fun _ : Unit => True) (fun _ t => ia_Wd D cl tys Sh ad ca h t) A
  | some (.int x) => va_Qi (fun y (_ : Unit) => y = x) (fun _ t => ia_Wd D cl tys Sh ad ca h t) A
  | some (.long x) => va_Ql (fun y (_ : Unit) => y = x) (fun _ t => ia_Wd D cl tys Sh ad ca h t) A
  | some (.double x) => va_Qd (fun y (_ : Unit) => y = x) (fun _ t => ia_Wd D cl tys Sh ad ca h t) A
  | _ => fun _ _ _ _ => False
/-- links to a nest mate's private fields: not among the words that a contract may pass on, so they stand in its start -/
abbrev ia_N : Type := String × Nat × String × String × String × String
abbrev ia_nw (q : ia_N) : Cond := .fieldLinkNest q.1 q.2.1 q.2.2.1 q.2.2.2.1 q.2.2.2.2.1 q.2.2.2.2.2
def ia_Pre (Ns : List ia_N) (D : va_G) (cl : List vw_C) (tys : List (ClassId × FieldType)) (Sh : List ia_C) (ad : Nat → Nat) (ca : Nat → ClassId) (sz : Nat) (as : List Value) (h : ia_H) : Array Value → State → Prop := va_Pc (as.map (ia_v ad)) (fun U => U.heap.size = sz ∧ va_P D cl (ia_w ad ca h 0 Sh) U.heap ∧ va_K D cl tys U ∧ va_D (fun _ => True) (ia_w ad ca h 0 Sh) ∧ ∀ w ∈ Ns, va_Nw (ia_nw w) U)
abbrev ia_rm (M : ia_M) : Room := { frames := M.2.2.2.2.2.2.2.2.1, cells := 0, slots := 0, locals := M.2.2.2.2.2.2.2.2.2 }
abbrev ia_ws (Ts : List Cond) (M : ia_M) : List Cond := Cond.code M.2.1 M.2.2.1 M.2.2.2.1 M.2.2.2.2.1 :: Ts
/-- a method's contract out of what the pure machine says of it -/
def ia_Mt (l : Launch) (Ts : List Cond) (Ns : List ia_N) (MT : List ia_M) (D : va_G) (cl : List vw_C) (tys : List (ClassId × FieldType)) (Sh : List ia_C) (ad : Nat → Nat) (ca : Nat → ClassId) (y : Nat) (as : List Value) (h : ia_H) (r : Option Value) (h' : ia_H) : Prop :=
  ∀ M : ia_M, ia_meth MT y = some M → ∀ sz : Nat, Met l M.2.1 (ia_ws Ts M) (ia_rm M) (ia_Pre Ns D cl tys Sh ad ca sz as h) (ia_Post D cl tys Sh ad ca (va_A (ia_w ad ca h 0 Sh) sz) r h') 0 0 (va_A (ia_w ad ca h 0 Sh) sz)
theorem ia_blind {Ns : List ia_N} {sz : Nat} {as : List Value} {h : ia_H} : FrameBlind (ia_Pre Ns D cl tys Sh ad ca sz as h) := fun a U g mk q => by
  obtain ⟨q0, q1, qP, qK, qD, qN⟩ := q
  exact ⟨q0, q1, qP, va_K.moved (u := U) (U := U.calling g mk a) (Vm.Alike.refl U.vm) qK, qD, fun w hw => va_Nw.same rfl rfl (qN w hw)⟩
theorem ia_free {H : Heap} {locs : List Loc} (hD : va_D A (ia_w ad ca hh 0 Sh)) (hS : va_S A H0 H locs) (hA : ∀ q, H0.size ≤ q → A q) : ∀ q, va_A (ia_w ad ca hh 0 Sh) H.size q → A q := by
  intro q hq
  rcases hq with ⟨k, e, hk⟩ | hq
  · exact hD.2 k _ hk
  · exact hA q (Nat.le_trans hS.1 hq)
/-- behind a call -/
theorem ia_back {r : Option Value} {h' : ia_H} {rest : List Value} {H : Heap} {locs : List Loc} {lc : Array Slot} {st0 : List Value} {av : Array Value} (hD : va_D A (ia_w ad ca hh 0 Sh)) (hS : va_S A H0 H locs) (hA : ∀ q, H0.size ≤ q → A q) (hR : ia_R ad nL lc ls)
    (hrun : va_Run p l e R s m args below meth c H locs cells slots 0 0 (F0 m pc lc st0) (rest.map (ia_v ad)) (ia_Post D cl tys Sh ad ca (va_A (ia_w ad ca hh 0 Sh) H.size) r h' av) (va_A (ia_w ad ca hh 0 Sh) H.size))
    (kk : ia_X p l e R s m args below meth c Q cells slots D cl A H0 Sh ad ca nL (pc + 3, ls, r.toList ++ rest, h')) : W p l e R s m args below meth c H locs cells slots Q (F0 m pc lc st0) := by
  have hF := ia_free hD hS hA
  match r, hrun, kk with
  | none, hrun, kk =>
    refine va_callv (a := av) hrun hS (fun q _ h => hF q h) hF (fun u t H1 locs1 ht hvm hw hB hz1 hk1 hS1 => ?_)
    exact kk H1 locs1 lc (ht ▸ hB.1) (ia_D_congr hD) hS1 hR
  | some (.int x), hrun, kk =>
    refine va_calli (a := av) hrun hS (fun q _ h => hF q h) hF (fun y u t H1 locs1 ht hvm hw hB hz1 hk1 hS1 => ?_)
    subst hw
    exact kk H1 locs1 lc (ht ▸ hB.1) (ia_D_congr hD) hS1 hR
  | some (.long x), hrun, kk =>
    refine va_calll (a := av) hrun hS (fun q _ h => hF q h) hF (fun y u t H1 locs1 ht hvm hw hB hz1 hk1 hS1 => ?_)
    subst hw
    exact kk H1 locs1 lc (ht ▸ hB.1) (ia_D_congr hD) hS1 hR
  | some (.double x), hrun, kk =>
    refine va_calld (a := av) hrun hS (fun q _ h => hF q h) hF (fun y u t H1 locs1 ht hvm hw hB hz1 hk1 hS1 => ?_)
    subst hw
    exact kk H1 locs1 lc (ht ▸ hB.1) (ia_D_congr hD) hS1 hR
  | some (.float x), hrun, _ =>
    intro T hT X
    obtain ⟨v, st₀, t, T', L, h0, X', hL, e1, e2, hq, st⟩ := hrun T hT X
    exact hq.elim
  | some (.ref x), hrun, _ =>
    intro T hT X
    obtain ⟨v, st₀, t, T', L, h0, X', hL, e1, e2, hq, st⟩ := hrun T hT X
    exact hq.elim
  | some (.retAddr x), hrun, _ =>
    intro T hT X
    obtain ⟨v, st₀, t, T', L, h0, X', hL, e1, e2, hq, st⟩ := hrun T hT X
    exact hq.elim
  | some .null, hrun, _ =>
    intro T hT X
    obtain ⟨v, st₀, t, T', L, h0, X', hL, e1, e2, hq, st⟩ := hrun T hT X
    exact hq.elim
theorem ia_goodIn {Ts ws : List Cond} (hG : Ts.all goodWord = true) (h : ∀ w ∈ ws, w ∈ Ts) : GoodIn Ts ws := fun w hw => ⟨h w hw, good_of_word (List.all_eq_true.mp hG w (h w hw))⟩
theorem ia_s_invokevirtual (hx : p.tables.exec = Jvm.exec) (hb : c.code = cc) {own : String} {idx : Nat} {Ts : List Cond} {Ns : List ia_N} {MT : List ia_M} {M : ia_M} (hNs : ∀ w ∈ Ns, va_Nw (ia_nw w) s) (hml : c.maxLocals = nL) (hts : ∀ w ∈ Ts, w.before args s = true) (hown : s.vm.findClass own = some m.cls) (hG : Ts.all goodWord = true) (hK : va_K D cl tys s) (hA : ∀ q, H0.size ≤ q → A q) (hcell : cells ≤ R.cells ∧ slots ≤ R.slots)
    (hcode : Cond.code M.2.1 M.2.2.1 M.2.2.2.1 M.2.2.2.2.1 ∈ Ts) (hini : Cond.initialized M.2.1.cls ∈ Ts) (hnm : M.2.1.cls ≠ "java/lang/invoke/MethodHandle" ∧ M.2.1.cls ≠ "java/lang/invoke/VarHandle") (hpar : (parseMethodDescriptor M.2.1.desc).map (fun d => d.parameters.length) = some b) (hlink : Cond.methodLink own idx M.2.1 ∈ Ts) (hroom : (ia_rm M).frames + 1 ≤ R.frames ∧ 8 + (M.2.2.2.1 + 11) + (ia_rm M).locals ≤ R.locals) (hM : ia_meth MT a = some M)
    (hin : Cond.instanceMethod M.2.1 ∈ Ts) (hsel : Cond.selects M.2.1.cls M.2.1 M.2.1 ∈ Ts) {cj : Nat} {q : vw_C} (hq : cl[cj]? = some q) (hqn : q.1 = M.2.1.cls) (hdg : decode cc pc = .ok (.invokevirtual idx, 3)) (h : ia_pre (ia_Mt l Ts Ns MT D cl tys Sh ad ca) Z (ia_X p l e R s m args below meth c Q cells slots D cl A H0 Sh ad ca nL) (ia_f Sh (pc, .invokevirtual idx, 3, a, b, w, .ref cj, ts) ls st hh)) : ia_X p l e R s m args below meth c Q cells slots D cl A H0 Sh ad ca nL (pc, ls, st, hh) := by
  simp only [ia_f] at h
  split at h <;> first | exact h.elim | skip
  rename_i as x st' hpop
  split at h <;> first | exact h.elim | skip
  rename_i ci ks hc
  cases hbe : Nat.beq ci cj with
  | false => rw [hbe] at h; exact h.elim
  | true =>
    rw [hbe] at h
    have hci := ia_beq hbe
    subst hci
    simp only [cond_true] at h
    cases hbl : Nat.ble st'.length 4 with
    | false => rw [hbl] at h; exact h.elim
    | true =>
      rw [hbl] at h
      simp only [cond_true] at h
      have hlen := Nat.le_of_ble_eq_true hbl
      obtain ⟨⟨r, h'⟩, hC, hX⟩ := h
      intro H locs lc hP hD hS hR
      obtain ⟨f, f1, f2, f3⟩ := ia_pop_spec hpop
      rw [List.append_nil] at f3
      have hMet := hC M hM H.size
      have cw : CallW R s args own M.2.1.cls idx M.2.1 M.2.2.1 M.2.2.2.1 M.2.2.2.2.1 (ia_ws Ts M) (ia_rm M) 0 0 b := cwV b hts (ia_goodIn hG (fun z hz => by
        rcases List.mem_append.mp hz with hz | hz
        · rcases List.mem_cons.mp hz with rfl | hz
          · exact hlink
          rcases List.mem_cons.mp hz with rfl | hz
          · exact hin
          rcases List.mem_cons.mp hz with rfl | hz
          · exact hsel
          rcases List.mem_cons.mp hz with rfl | hz
          · exact hini
          cases hz
        · rcases List.mem_cons.mp hz with rfl | hz
          · exact hcode
          · exact hz)) rfl rfl rfl ⟨rfl, hnm.1, hnm.2, hpar⟩ hroom
      have hrec := va_recv hK hP hq (ia_w_at hc)
      rw [hqn] at hrec
      have hsum := ia_sum4 ad st'
      refine ia_back hD hS hA hR (va_runV (As := as.map (ia_v ad)) (rest := st'.map (ia_v ad)) (b := ad x) ⟨hx, hb, hml, hown, hts⟩ hMet cw ⟨ia_blind, hrec, fun U hU hW => ⟨rfl, by rw [hU], by rw [hU]; exact hP, va_K.moved hW.alike hK, hD.weaken (fun _ _ _ _ => trivial), fun w hw => va_Nw.warmF hW (hNs w hw)⟩⟩ rfl (by rw [f3]; simp [f1]) hR.2.1 (by show List.map _ _ = _; rw [f2, f3]; simp [ia_v]) (lv_room (by omega)) hdg ⟨hcell.1, hcell.2⟩) hX
theorem ia_s_invokestatic (hx : p.tables.exec = Jvm.exec) (hb : c.code = cc) {own : String} {idx : Nat} {Ts : List Cond} {Ns : List ia_N} {MT : List ia_M} {M : ia_M} (hNs : ∀ w ∈ Ns, va_Nw (ia_nw w) s) (hml : c.maxLocals = nL) (hts : ∀ w ∈ Ts, w.before args s = true) (hown : s.vm.findClass own = some m.cls) (hG : Ts.all goodWord = true) (hK : va_K D cl tys s) (hA : ∀ q, H0.size ≤ q → A q) (hcell : cells ≤ R.cells ∧ slots ≤ R.slots)
    (hcode : Cond.code M.2.1 M.2.2.1 M.2.2.2.1 M.2.2.2.2.1 ∈ Ts) (hini : Cond.initialized M.2.1.cls ∈ Ts) (hnm : M.2.1.cls ≠ "java/lang/invoke/MethodHandle" ∧ M.2.1.cls ≠ "java/lang/invoke/VarHandle") (hpar : (parseMethodDescriptor M.2.1.desc).map (fun d => d.parameters.length) = some b) (hlink : Cond.methodLink own idx M.2.1 ∈ Ts) (hroom : (ia_rm M).frames + 1 ≤ R.frames ∧ 8 + (M.2.2.2.1 + 11) + (ia_rm M).locals ≤ R.locals) (hM : ia_meth MT a = some M)
    (hstat : Cond.static M.2.1 ∈ Ts) (hdg : decode cc pc = .ok (.invokestatic idx, 3)) (h : ia_pre (ia_Mt l Ts Ns MT D cl tys Sh ad ca) Z (ia_X p l e R s m args below meth c Q cells slots D cl A H0 Sh ad ca nL) (ia_f Sh (pc, .invokestatic idx, 3, a + 6, b, w, v, ts) ls st hh)) : ia_X p l e R s m args below meth c Q cells slots D cl A H0 Sh ad ca nL (pc, ls, st, hh) := by
  simp only [ia_f] at h
  split at h <;> first | exact h.elim | skip
  rename_i as st' hpop
  cases hbl : Nat.ble st'.length 4 with
  | false => rw [hbl] at h; exact h.elim
  | true =>
    rw [hbl] at h
    simp only [cond_true] at h
    have hlen := Nat.le_of_ble_eq_true hbl
    obtain ⟨⟨r, h'⟩, hC, hX⟩ := h
    intro H locs lc hP hD hS hR
    obtain ⟨f, f1, f2, f3⟩ := ia_pop_spec hpop
    rw [List.append_nil] at f3
    have hMet := hC M hM H.size
    have hGi : GoodIn Ts (ia_ws Ts M) := ia_goodIn hG (fun z hz => by
        rcases List.mem_cons.mp hz with rfl | hz
        · exact hcode
        · exact hz)
    have cw : CallB R s args own idx M.2.1 M.2.2.1 M.2.2.2.1 M.2.2.2.2.1 (ia_ws Ts M) (ia_rm M) 0 0 b := callB_of b hts hGi rfl rfl rfl (hts _ hini) (hts _ hlink) ⟨hnm.1, hnm.2, hpar⟩ hroom
    have hsum := ia_sum4 ad st'
    refine ia_back hD hS hA hR (va_runS (As := as.map (ia_v ad)) (rest := st'.map (ia_v ad)) ⟨hx, hb, hml, hown, hts⟩ hMet ⟨cw, hts _ hstat⟩ ⟨ia_blind, fun U hU hW => ⟨rfl, by rw [hU], by rw [hU]; exact hP, va_K.moved hW.alike hK, hD.weaken (fun _ _ _ _ => trivial), fun w hw => va_Nw.warmF hW (hNs w hw)⟩⟩ rfl (by rw [f3]; simp [f1]) hR.2.1 (by show List.map _ _ = _; rw [f2, f3]; simp) (lv_room (by omega)) hdg ⟨hcell.1, hcell.2⟩) hX
theorem ia_s_d2raw (hx : p.tables.exec = Jvm.exec) (hb : c.code = cc) {own : String} {idx : Nat} (hml : c.maxLocals = nL) (hown : s.vm.findClass own = some m.cls) (hlink : (Cond.methodLink own idx ⟨"java/lang/Double", "doubleToRawLongBits", "(D)J"⟩).before args s = true) (hnat : (Cond.native ⟨"java/lang/Double", "doubleToRawLongBits", "(D)J"⟩).before args s = true) (hstat : (Cond.static ⟨"java/lang/Double", "doubleToRawLongBits", "(D)J"⟩).before args s = true) (hinit : (Cond.initialized "java/lang/Double").before args s = true) (hframes : 1 ≤ R.frames) (hlocals : 8 + 15 ≤ R.locals)
    (hdg : decode cc pc = .ok (.invokestatic idx, 3)) (h : ia_pre C Z (ia_X p l e R s m args below meth c Q cells slots D cl A H0 Sh ad ca nL) (ia_f Sh (pc, .invokestatic idx, 3, 0, b, w, v, ts) ls st hh)) : ia_X p l e R s m args below meth c Q cells slots D cl A H0 Sh ad ca nL (pc, ls, st, hh) := by
  simp only [ia_f] at h
  split at h <;> first | exact h.elim | skip
  rename_i x st'
  cases hbl : Nat.ble st'.length 4 with
  | false => rw [hbl] at h; exact h.elim
  | true =>
    rw [hbl] at h
    simp only [cond_true] at h
    have hlen := Nat.le_of_ble_eq_true hbl
    have hsum := ia_sum4 ad st'
    intro H locs lc hP hD hS hR
    exact vn_d2l hx hb (by rw [hml, hR.2.1]) hown hlink hnat hstat hinit hframes (by omega) hdg (h H locs lc hP hD hS hR)
theorem ia_s_arraycopy (hx : p.tables.exec = Jvm.exec) (hb : c.code = cc) {own : String} {idx : Nat} (hml : c.maxLocals = nL) (hown : s.vm.findClass own = some m.cls) (hK : va_K D cl tys s) (hT : ia_T Sh ca tys) (hlink : (Cond.methodLink own idx arraycopyName).before args s = true) (hnat : (Cond.native arraycopyName).before args s = true) (hstat : (Cond.static arraycopyName).before args s = true) (hini : (Cond.initialized "java/lang/System").before args s = true) (hframes : 1 ≤ R.frames) (hlocals : 8 + (nativeFrameWords "java/lang/System" "arraycopy" 5 + 11) ≤ R.locals)
    (hdg : decode cc pc = .ok (.invokestatic idx, 3)) (h : ia_pre C Z (ia_X p l e R s m args below meth c Q cells slots D cl A H0 Sh ad ca nL) (ia_f Sh (pc, .invokestatic idx, 3, 1, b, w, v, ts) ls st hh)) : ia_X p l e R s m args below meth c Q cells slots D cl A H0 Sh ad ca nL (pc, ls, st, hh) := by
  simp only [ia_f] at h
  split at h <;> first | exact h.elim | skip
  rename_i n dp y sp x st'
  split at h <;> first | exact h.elim | skip
  · rename_i n0 hc0
    split at h <;> first | exact h.elim | skip
    rename_i n1 hc1
    cases hbl : Nat.ble st'.length 4 with
    | false => rw [hbl] at h; exact h.elim
    | true =>
      rw [hbl] at h
      simp only [cond_true] at h
      have hlen := Nat.le_of_ble_eq_true hbl
      have hsum := ia_sum4 ad st'
      obtain ⟨t0, ht0⟩ := hT.1 _ _ _ hc0
      obtain ⟨t1, ht1⟩ := hT.1 _ _ _ hc1
      intro H locs lc hP hD hS hR
      have e := ia_w_set (ad := ad) (ca := ca) (h := hh) (h' := (ia_cpI hh.1 x y sp.toNatClampNeg dp.toNatClampNeg n.toNatClampNeg, hh.2)) hc1 (fun z hz => if_neg hz) (fun z _ => rfl) (v := .inl (ca y, n1, .inl (va_cpy (hh.1 x) (hh.1 y) sp.toNatClampNeg dp.toNatClampNeg n.toNatClampNeg))) (by simp only [ia_cell, ia_cpI, if_true])
      obtain ⟨⟨g1, g2, g3, g4, g5⟩, hX⟩ := h
      exact va_copyi hx hb (by rw [hml, hR.2.1]) hown hlink hnat hstat hini hK hP hD hS x y t0 t1 (ia_w_at hc0) (ia_w_at hc1) ht0 ht1 rfl g1 g2 g3 g4 g5 (fun i hi => rfl) hframes (by omega) hdg (fun H1 locs1 hP1 hD1 hS1 => hX H1 locs1 lc (e ▸ hP1) (e ▸ hD1) hS1 hR)
  · rename_i n0 hc0
    split at h <;> first | exact h.elim | skip
    rename_i n1 hc1
    cases hbl : Nat.ble st'.length 4 with
    | false => rw [hbl] at h; exact h.elim
    | true =>
      rw [hbl] at h
      simp only [cond_true] at h
      have hlen := Nat.le_of_ble_eq_true hbl
      have hsum := ia_sum4 ad st'
      obtain ⟨t0, ht0⟩ := hT.1 _ _ _ hc0
      obtain ⟨t1, ht1⟩ := hT.1 _ _ _ hc1
      intro H locs lc hP hD hS hR
      have e := ia_w_set (ad := ad) (ca := ca) (h := hh) (h' := (ia_cpI hh.1 x y sp.toNatClampNeg dp.toNatClampNeg n.toNatClampNeg, hh.2)) hc1 (fun z hz => if_neg hz) (fun z _ => rfl) (v := .inl (ca y, n1, .inl (va_cpy (hh.1 x) (hh.1 y) sp.toNatClampNeg dp.toNatClampNeg n.toNatClampNeg))) (by simp only [ia_cell, ia_cpI, if_true])
      obtain ⟨⟨g1, g2, g3, g4, g5, g6⟩, hX⟩ := h
      exact va_copyi hx hb (by rw [hml, hR.2.1]) hown hlink hnat hstat hini hK hP hD hS x y t0 t1 (ia_w_at hc0) (ia_w_at hc1) ht0 ht1 rfl g1 g2 g3 g4 g5 g6 hframes (by omega) hdg (fun H1 locs1 hP1 hD1 hS1 => hX H1 locs1 lc (e ▸ hP1) (e ▸ hD1) hS1 hR)
theorem ia_s_max_long (hx : p.tables.exec = Jvm.exec) (hb : c.code = cc) {own : String} {idx : Nat} (hml : c.maxLocals = nL) (hown : s.vm.findClass own = some m.cls) (hlink : (Cond.methodLink own idx Lib.MathLoose.max_long.x).before args s = true) (hcode : (Cond.code Lib.MathLoose.max_long.x Lib.MathLoose.max_long.code 4 (some .long)).before args s = true) (hstat : (Cond.static Lib.MathLoose.max_long.x).before args s = true) (hinit : (Cond.initialized "java/lang/Math").before args s = true) (hframes : 1 ≤ R.frames) (hlocals : 8 + 15 ≤ R.locals) (hcell : cells ≤ R.cells ∧ slots ≤ R.slots)
    (hdg : decode cc pc = .ok (.invokestatic idx, 3)) (h : ia_pre C Z (ia_X p l e R s m args below meth c Q cells slots D cl A H0 Sh ad ca nL) (ia_f Sh (pc, .invokestatic idx, 3, 2, b, w, v, ts) ls st hh)) : ia_X p l e R s m args below meth c Q cells slots D cl A H0 Sh ad ca nL (pc, ls, st, hh) := by
  simp only [ia_f] at h
  split at h <;> first | exact h.elim | skip
  rename_i st'
  cases hbl : Nat.ble st'.length 4 with
  | false => rw [hbl] at h; exact h.elim
  | true =>
    rw [hbl] at h
    simp only [cond_true] at h
    have hlen := Nat.le_of_ble_eq_true hbl
    have hsum := ia_sum4 ad st'
    intro H locs lc hP hD hS hR
    exact va_mmax_long hx hb (by rw [hml, hR.2.1]) hown hlink hstat hinit hcode hframes (by omega) hcell.1 hcell.2 hdg (h H locs lc hP hD hS hR)
theorem ia_s_min_long (hx : p.tables.exec = Jvm.exec) (hb : c.code = cc) {own : String} {idx : Nat} (hml : c.maxLocals = nL) (hown : s.vm.findClass own = some m.cls) (hlink : (Cond.methodLink own idx Lib.MathLoose.min_long.x).before args s = true) (hcode : (Cond.code Lib.MathLoose.min_long.x Lib.MathLoose.min_long.code 4 (some .long)).before args s = true) (hstat : (Cond.static Lib.MathLoose.min_long.x).before args s = true) (hinit : (Cond.initialized "java/lang/Math").before args s = true) (hframes : 1 ≤ R.frames) (hlocals : 8 + 15 ≤ R.locals) (hcell : cells ≤ R.cells ∧ slots ≤ R.slots)
    (hdg : decode cc pc = .ok (.invokestatic idx, 3)) (h : ia_pre C Z (ia_X p l e R s m args below meth c Q cells slots D cl A H0 Sh ad ca nL) (ia_f Sh (pc, .invokestatic idx, 3, 3, b, w, v, ts) ls st hh)) : ia_X p l e R s m args below meth c Q cells slots D cl A H0 Sh ad ca nL (pc, ls, st, hh) := by
  simp only [ia_f] at h
  split at h <;> first | exact h.elim | skip
  rename_i st'
  cases hbl : Nat.ble st'.length 4 with
  | false => rw [hbl] at h; exact h.elim
  | true =>
    rw [hbl] at h
    simp only [cond_true] at h
    have hlen := Nat.le_of_ble_eq_true hbl
    have hsum := ia_sum4 ad st'
    intro H locs lc hP hD hS hR
    exact va_mmin_long hx hb (by rw [hml, hR.2.1]) hown hlink hstat hinit hcode hframes (by omega) hcell.1 hcell.2 hdg (h H locs lc hP hD hS hR)
theorem ia_s_abs_long (hx : p.tables.exec = Jvm.exec) (hb : c.code = cc) {own : String} {idx : Nat} (hml : c.maxLocals = nL) (hown : s.vm.findClass own = some m.cls) (hlink : (Cond.methodLink own idx Lib.MathLoose.abs_long.x).before args s = true) (hcode : (Cond.code Lib.MathLoose.abs_long.x Lib.MathLoose.abs_long.code 2 (some .long)).before args s = true) (hstat : (Cond.static Lib.MathLoose.abs_long.x).before args s = true) (hinit : (Cond.initialized "java/lang/Math").before args s = true) (hframes : 1 ≤ R.frames) (hlocals : 8 + 15 ≤ R.locals) (hcell : cells ≤ R.cells ∧ slots ≤ R.slots)
    (hdg : decode cc pc = .ok (.invokestatic idx, 3)) (h : ia_pre C Z (ia_X p l e R s m args below meth c Q cells slots D cl A H0 Sh ad ca nL) (ia_f Sh (pc, .invokestatic idx, 3, 4, b, w, v, ts) ls st hh)) : ia_X p l e R s m args below meth c Q cells slots D cl A H0 Sh ad ca nL (pc, ls, st, hh) := by
  simp only [ia_f] at h
  split at h <;> first | exact h.elim | skip
  rename_i st'
  cases hbl : Nat.ble st'.length 4 with
  | false => rw [hbl] at h; exact h.elim
  | true =>
    rw [hbl] at h
    simp only [cond_true] at h
    have hlen := Nat.le_of_ble_eq_true hbl
    have hsum := ia_sum4 ad st'
    intro H locs lc hP hD hS hR
    exact va_mabs_long hx hb (by rw [hml, hR.2.1]) hown hlink hstat hinit hcode hframes (by omega) hcell.1 hcell.2 hdg (h H locs lc hP hD hS hR)
theorem ia_s_min_int (hx : p.tables.exec = Jvm.exec) (hb : c.code = cc) {own : String} {idx : Nat} (hml : c.maxLocals = nL) (hown : s.vm.findClass own = some m.cls) (hlink : (Cond.methodLink own idx Lib.Math.min.name).before args s = true) (hcode : (Cond.code Lib.Math.min.name Lib.Math.min.code 2 (some .int)).before args s = true) (hstat : (Cond.static Lib.Math.min.name).before args s = true) (hinit : (Cond.initialized "java/lang/Math").before args s = true) (hframes : 1 ≤ R.frames) (hlocals : 8 + 15 ≤ R.locals) (hcell : cells ≤ R.cells ∧ slots ≤ R.slots)
    (hdg : decode cc pc = .ok (.invokestatic idx, 3)) (h : ia_pre C Z (ia_X p l e R s m args below meth c Q cells slots D cl A H0 Sh ad ca nL) (ia_f Sh (pc, .invokestatic idx, 3, 5, b, w, v, ts) ls st hh)) : ia_X p l e R s m args below meth c Q cells slots D cl A H0 Sh ad ca nL (pc, ls, st, hh) := by
  simp only [ia_f] at h
  split at h <;> first | exact h.elim | skip
  rename_i st'
  cases hbl : Nat.ble st'.length 4 with
  | false => rw [hbl] at h; exact h.elim
  | true =>
    rw [hbl] at h
    simp only [cond_true] at h
    have hlen := Nat.le_of_ble_eq_true hbl
    have hsum := ia_sum4 ad st'
    intro H locs lc hP hD hS hR
    exact va_mmin hx hb (by rw [hml, hR.2.1]) hown hlink hstat hinit hcode hframes (by omega) hcell.1 hcell.2 hdg (h H locs lc hP hD hS hR)
theorem ia_s_ireturn {r0 : Option Value} {h1 : ia_H} (hx : p.tables.exec = Jvm.exec) (hb : c.code = cc) (hlocks : meth.locks = false) (hK : va_K D cl tys s) (hr : meth.sig.returnType = some .int) (hdg : decode cc pc = .ok (.ireturn, 1)) (h : ia_pre C (fun r1 h2 => r1 = r0 ∧ h2 = h1) (ia_X p l e R s m args below meth c (MQ below (ia_Post D cl tys Sh ad ca A r0 h1) args s cells slots A) cells slots D cl A s.heap Sh ad ca nL) (ia_f Sh (pc, .ireturn, 1, 0, b, w, v, ts) ls st hh)) : ia_X p l e R s m args below meth c (MQ below (ia_Post D cl tys Sh ad ca A r0 h1) args s cells slots A) cells slots D cl A s.heap Sh ad ca nL (pc, ls, st, hh) := by
  simp only [ia_f] at h
  split at h <;> first | exact h.elim | skip
  rename_i x
  obtain ⟨rfl, rfl⟩ := h
  intro H locs lc hP hD hS hR
  exact W.iret (v := x) hx hb hr (fun t ht hW => ⟨⟨x, (), rfl, rfl, ⟨by rw [ht]; exact hP, va_K.moved hW.alike hK⟩⟩, hS.F ht⟩) hS.2.2 hdg
theorem ia_s_zreturn {r0 : Option Value} {h1 : ia_H} (hx : p.tables.exec = Jvm.exec) (hb : c.code = cc) (hlocks : meth.locks = false) (hK : va_K D cl tys s) (hr : meth.sig.returnType = some .boolean) (hdg : decode cc pc = .ok (.ireturn, 1)) (h : ia_pre C (fun r1 h2 => r1 = r0 ∧ h2 = h1) (ia_X p l e R s m args below meth c (MQ below (ia_Post D cl tys Sh ad ca A r0 h1) args s cells slots A) cells slots D cl A s.heap Sh ad ca nL) (ia_f Sh (pc, .ireturn, 1, 1, b, w, v, ts) ls st hh)) : ia_X p l e R s m args below meth c (MQ below (ia_Post D cl tys Sh ad ca A r0 h1) args s cells slots A) cells slots D cl A s.heap Sh ad ca nL (pc, ls, st, hh) := by
  simp only [ia_f] at h
  split at h <;> first | exact h.elim | skip
  rename_i x
  obtain ⟨h01, rfl, rfl⟩ := h
  intro H locs lc hP hD hS hR
  exact W.zret (v := x) hx hb hr (by rcases h01 with rfl | rfl <;> rfl) (fun t ht hW => ⟨⟨x, (), rfl, rfl, ⟨by rw [ht]; exact hP, va_K.moved hW.alike hK⟩⟩, hS.F ht⟩) hS.2.2 hdg
theorem ia_s_lreturn {r0 : Option Value} {h1 : ia_H} (hx : p.tables.exec = Jvm.exec) (hb : c.code = cc) (hlocks : meth.locks = false) (hK : va_K D cl tys s) (hr : meth.sig.returnType = some .long) (hdg : decode cc pc = .ok (.lreturn, 1)) (h : ia_pre C (fun r1 h2 => r1 = r0 ∧ h2 = h1) (ia_X p l e R s m args below meth c (MQ below (ia_Post D cl tys Sh ad ca A r0 h1) args s cells slots A) cells slots D cl A s.heap Sh ad ca nL) (ia_f Sh (pc, .lreturn, 1, a, b, w, v, ts) ls st hh)) : ia_X p l e R s m args below meth c (MQ below (ia_Post D cl tys Sh ad ca A r0 h1) args s cells slots A) cells slots D cl A s.heap Sh ad ca nL (pc, ls, st, hh) := by
  simp only [ia_f] at h
  split at h <;> first | exact h.elim | skip
  rename_i x
  obtain ⟨rfl, rfl⟩ := h
  intro H locs lc hP hD hS hR
  exact W.lret (v := x) hx hb hr (fun t ht hW => ⟨⟨x, (), rfl, rfl, ⟨by rw [ht]; exact hP, va_K.moved hW.alike hK⟩⟩, hS.F ht⟩) hS.2.2 hdg
theorem ia_s_dreturn {r0 : Option Value} {h1 : ia_H} (hx : p.tables.exec = Jvm.exec) (hb : c.code = cc) (hlocks : meth.locks = false) (hK : va_K D cl tys s) (hr : meth.sig.returnType = some .double) (hdg : decode cc pc = .ok (.dreturn, 1)) (h : ia_pre C (fun r1 h2 => r1 = r0 ∧ h2 = h1) (ia_X p l e R s m args below meth c (MQ below (ia_Post D cl tys Sh ad ca A r0 h1) args s cells slots A) cells slots D cl A s.heap Sh ad ca nL) (ia_f Sh (pc, .dreturn, 1, a, b, w, v, ts) ls st hh)) : ia_X p l e R s m args below meth c (MQ below (ia_Post D cl tys Sh ad ca A r0 h1) args s cells slots A) cells slots D cl A s.heap Sh ad ca nL (pc, ls, st, hh) := by
  simp only [ia_f] at h
  split at h <;> first | exact h.elim | skip
  rename_i x
  obtain ⟨rfl, rfl⟩ := h
  intro H locs lc hP hD hS hR
  exact W.dret (v := x) hx hb hr (fun t ht hW => ⟨⟨x, (), rfl, rfl, ⟨by rw [ht]; exact hP, va_K.moved hW.alike hK⟩⟩, hS.F ht⟩) hS.2.2 hdg
theorem ia_s_return {r0 : Option Value} {h1 : ia_H} (hx : p.tables.exec = Jvm.exec) (hb : c.code = cc) (hlocks : meth.locks = false) (hK : va_K D cl tys s) (hr : meth.sig.returnType = none) (hdg : decode cc pc = .ok (.return_, 1)) (h : ia_pre C (fun r1 h2 => r1 = r0 ∧ h2 = h1) (ia_X p l e R s m args below meth c (MQ below (ia_Post D cl tys Sh ad ca A r0 h1) args s cells slots A) cells slots D cl A s.heap Sh ad ca nL) (ia_f Sh (pc, .return_, 1, a, b, w, v, ts) ls st hh)) : ia_X p l e R s m args below meth c (MQ below (ia_Post D cl tys Sh ad ca A r0 h1) args s cells slots A) cells slots D cl A s.heap Sh ad ca nL (pc, ls, st, hh) := by
  simp only [ia_f] at h
  split at h <;> first | exact h.elim | skip
  obtain ⟨rfl, rfl⟩ := h
  intro H locs lc hP hD hS hR
  exact W.vret hx hb hr (fun t ht hW => ⟨⟨(), rfl, trivial, ⟨by rw [ht]; exact hP, va_K.moved hW.alike hK⟩⟩, hS.F ht⟩) hS.2.2 hdg
end IA3
end
section
/-! THE WHOLE STEP, AND CONTRACTS OUT OF THE PURE MACHINE -/
/-- a word of the list by its place -/
abbrev ia_wd (Ts : List Cond) (i : Nat) (x : Cond) : Bool := decide (Ts[i]? = some x)
theorem ia_wd_mem {Ts : List Cond} {i : Nat} {x : Cond} (h : Ts[i]? = some x) : x ∈ Ts := List.mem_of_getElem? h
/-- an entry of a table is as the class file and the words say -/
def ia_okI (Ts : List Cond) (Ns : List ia_N) (cl : List vw_C) (MT : List ia_M) (M : ia_M) (e : ia_E) : Bool :=
  match e with
  | (pc, ins, len, a, b, wi, v, ts) =>
  match ins with
  | .aload_n _ => Nat.beq len 1
  | .iload_n _ => Nat.beq len 1
  | .lload_n _ => Nat.beq len 1
  | .dload_n _ => Nat.beq len 1
  | .aload _ => Nat.beq len 2
  | .iload _ => Nat.beq len 2
  | .lload _ => Nat.beq len 2
  | .astore_n k => Nat.beq len 1 && decide (k.val < M.2.2.2.1)
  | .istore_n k => Nat.beq len 1 && decide (k.val < M.2.2.2.1)
  | .astore k => Nat.beq len 2 && decide (k < M.2.2.2.1)
  | .istore k => Nat.beq len 2 && decide (k < M.2.2.2.1)
  | .lstore_n k => Nat.beq len 1 && decide (k.val + 1 < M.2.2.2.1)
  | .dstore_n k => Nat.beq len 1 && decide (k.val + 1 < M.2.2.2.1)
  | .lstore k => Nat.beq len 2 && decide (k + 1 < M.2.2.2.1)
  | .iinc k n => Nat.beq len 3 && decide (k < M.2.2.2.1) && decide (v = .int (Int32.ofInt n))
  | .iconst n => Nat.beq len 1 && decide (v = .int (Int32.ofInt n))
  | .bipush n => Nat.beq len 2 && decide (v = .int (Int8.ofInt n).toInt32)
  | .sipush n => Nat.beq len 3 && decide (v = .int (Int16.ofInt n).toInt32)
  | .lconst n => Nat.beq len 1 && decide (v = .long (Int64.ofNat n.val))
  | .dconst n => Nat.beq len 1 && decide (n = 0)
  | .ldc2_w i => Nat.beq len 3 && (match v with
    | .long x => ia_wd Ts wi (.constantLong M.2.1.cls i x)
    | .double x => ia_wd Ts wi (.constantDouble M.2.1.cls i x)
    | _ => false)
  | .iadd => Nat.beq len 1
  | .isub => Nat.beq len 1
  | .imul => Nat.beq len 1
  | .irem => Nat.beq len 1
  | .iand => Nat.beq len 1
  | .ixor => Nat.beq len 1
  | .ishr => Nat.beq len 1
  | .ladd => Nat.beq len 1
  | .lsub => Nat.beq len 1
  | .lmul => Nat.beq len 1
  | .land => Nat.beq len 1
  | .lor => Nat.beq len 1
  | .lneg => Nat.beq len 1
  | .lshl => Nat.beq len 1
  | .lcmp => Nat.beq len 1
  | .dadd => Nat.beq len 1
  | .dmul => Nat.beq len 1
  | .ddiv => Nat.beq len 1
  | .dneg => Nat.beq len 1
  | .i2l => Nat.beq len 1
  | .i2b => Nat.beq len 1
  | .i2d => Nat.beq len 1
  | .l2d => Nat.beq len 1
  | .d2l => Nat.beq len 1
  | .dup => Nat.beq len 1
  | .dup2 => Nat.beq len 1
  | .iaload => Nat.beq len 1
  | .baload => Nat.beq len 1
  | .laload => Nat.beq len 1
  | .iastore => Nat.beq len 1
  | .bastore => Nat.beq len 1
  | .lastore => Nat.beq len 1
  | .arraylength => Nat.beq len 1
  | .aaload => Nat.beq len 1
  | .dcmp _ => Nat.beq len 1
  | .goto off => Nat.beq len 3 && decide ((pc : Int) + off = (a : Int))
  | .if_icmp _ off => Nat.beq len 3 && decide ((pc : Int) + off = (a : Int))
  | .ifCond _ off => Nat.beq len 3 && decide ((pc : Int) + off = (a : Int))
  | .tableswitch dflt lo hi offs => decide ((pc : Int) + dflt = (a : Int)) && offs.toList.all (fun o => decide (0 ≤ (pc : Int) + o)) && decide (-2 ^ 31 ≤ lo) && decide (hi + 1 ≤ 2 ^ 31) && decide (lo + offs.toList.length = hi + 1) && decide (ts = ia_ts pc lo offs.toList)
  | .lookupswitch dflt ps => decide ((pc : Int) + dflt = (a : Int)) && (ps.toList.zip (ps.toList.drop 1)).all (fun (a, next) => a.1 < next.1) && ps.toList.all (fun o => decide (0 ≤ (pc : Int) + o.2) && decide (-2 ^ 31 ≤ o.1) && decide (o.1 < 2 ^ 31)) && decide (ts = ia_lt pc ps.toList)
  | .getfield i => Nat.beq len 3 && (match cl[a]? with
    | some q => decide (b < q.2.2) && (ia_wd Ts wi (.fieldLink M.2.1.cls i (q.2.1 b).1 (q.2.1 b).2.1 (q.2.1 b).2.2.1) || decide (Ns[wi]? = some (M.2.1.cls, i, (q.2.1 b).1, (q.2.1 b).2.1, (q.2.1 b).2.2.1, "OffsetBook")))
    | none => false)
  | .putfield i => Nat.beq len 3 && (match cl[a]? with
    | some q => decide (b < q.2.2) && decide ((q.2.1 b).2.2.2 = false) && (ia_wd Ts wi (.fieldLink M.2.1.cls i (q.2.1 b).1 (q.2.1 b).2.1 (q.2.1 b).2.2.1) || decide (Ns[wi]? = some (M.2.1.cls, i, (q.2.1 b).1, (q.2.1 b).2.1, (q.2.1 b).2.2.1, "OffsetBook")))
    | none => false)
  | .invokevirtual i => Nat.beq len 3 && (match ia_meth MT a, v with
    | some M', .ref cj => (match cl[cj]? with
      | some q => decide (q.1 = M'.2.1.cls) && Nat.beq M'.2.2.2.2.2.1 b && ia_wd Ts wi (.methodLink M.2.1.cls i M'.2.1) && ia_wd Ts M'.2.2.2.2.2.2.2.1.2.2.1 (.instanceMethod M'.2.1) && ia_wd Ts M'.2.2.2.2.2.2.2.1.2.2.2 (.selects M'.2.1.cls M'.2.1 M'.2.1) && decide (M'.2.2.2.2.2.2.2.2.1 + 1 ≤ M.2.2.2.2.2.2.2.2.1) && decide (8 + (M'.2.2.2.1 + 11) + M'.2.2.2.2.2.2.2.2.2 ≤ M.2.2.2.2.2.2.2.2.2)
      | none => false)
    | _, _ => false)
  | .invokestatic i => Nat.beq len 3 && (match a with
    | 0 => ia_wd Ts wi (.methodLink M.2.1.cls i ⟨"java/lang/Double", "doubleToRawLongBits", "(D)J"⟩) && (match ts with
      | [(_, n), (_, t), (_, u)] => ia_wd Ts n (.native ⟨"java/lang/Double", "doubleToRawLongBits", "(D)J"⟩) && ia_wd Ts t (.static ⟨"java/lang/Double", "doubleToRawLongBits", "(D)J"⟩) && ia_wd Ts u (.initialized "java/lang/Double")
      | _ => false) && decide (1 ≤ M.2.2.2.2.2.2.2.2.1) && decide (8 + 15 ≤ M.2.2.2.2.2.2.2.2.2)
    | 1 => ia_wd Ts wi (.methodLink M.2.1.cls i arraycopyName) && (match ts with
      | [(_, n), (_, t), (_, u)] => ia_wd Ts n (.native arraycopyName) && ia_wd Ts t (.static arraycopyName) && ia_wd Ts u (.initialized "java/lang/System")
      | _ => false) && decide (1 ≤ M.2.2.2.2.2.2.2.2.1) && decide (8 + (nativeFrameWords "java/lang/System" "arraycopy" 5 + 11) ≤ M.2.2.2.2.2.2.2.2.2)
    | 2 => ia_wd Ts wi (.methodLink M.2.1.cls i Lib.MathLoose.max_long.x) && (match ts with
      | [(_, n), (_, t), (_, u)] => ia_wd Ts n (.code Lib.MathLoose.max_long.x Lib.MathLoose.max_long.code 4 (some .long)) && ia_wd Ts t (.static Lib.MathLoose.max_long.x) && ia_wd Ts u (.initialized "java/lang/Math")
      | _ => false) && decide (1 ≤ M.2.2.2.2.2.2.2.2.1) && decide (8 + 15 ≤ M.2.2.2.2.2.2.2.2.2)
    | 3 => ia_wd Ts wi (.methodLink M.2.1.cls i Lib.MathLoose.min_long.x) && (match ts with
      | [(_, n), (_, t), (_, u)] => ia_wd Ts n (.code Lib.MathLoose.min_long.x Lib.MathLoose.min_long.code 4 (some .long)) && ia_wd Ts t (.static Lib.MathLoose.min_long.x) && ia_wd Ts u (.initialized "java/lang/Math")
      | _ => false) && decide (1 ≤ M.2.2.2.2.2.2.2.2.1) && decide (8 + 15 ≤ M.2.2.2.2.2.2.2.2.2)
    | 4 => ia_wd Ts wi (.methodLink M.2.1.cls i Lib.MathLoose.abs_long.x) && (match ts with
      | [(_, n), (_, t), (_, u)] => ia_wd Ts n (.code Lib.MathLoose.abs_long.x Lib.MathLoose.abs_long.code 2 (some .long)) && ia_wd Ts t (.static Lib.MathLoose.abs_long.x) && ia_wd Ts u (.initialized "java/lang/Math")
      | _ => false) && decide (1 ≤ M.2.2.2.2.2.2.2.2.1) && decide (8 + 15 ≤ M.2.2.2.2.2.2.2.2.2)
    | 5 => ia_wd Ts wi (.methodLink M.2.1.cls i Lib.Math.min.name) && (match ts with
      | [(_, n), (_, t), (_, u)] => ia_wd Ts n (.code Lib.Math.min.name Lib.Math.min.code 2 (some .int)) && ia_wd Ts t (.static Lib.Math.min.name) && ia_wd Ts u (.initialized "java/lang/Math")
      | _ => false) && decide (1 ≤ M.2.2.2.2.2.2.2.2.1) && decide (8 + 15 ≤ M.2.2.2.2.2.2.2.2.2)
    | a + 6 => match ia_meth MT a with
      | some M' => Nat.beq M'.2.2.2.2.2.1 b && ia_wd Ts wi (.methodLink M.2.1.cls i M'.2.1) && ia_wd Ts M'.2.2.2.2.2.2.2.1.2.2.1 (.static M'.2.1) && decide (M'.2.2.2.2.2.2.2.2.1 + 1 ≤ M.2.2.2.2.2.2.2.2.1) && decide (8 + (M'.2.2.2.1 + 11) + M'.2.2.2.2.2.2.2.2.2 ≤ M.2.2.2.2.2.2.2.2.2)
      | none => false)
  | .ireturn => Nat.beq len 1 && (match a with
    | 0 => decide (M.2.2.2.2.1 = some .int)
    | 1 => decide (M.2.2.2.2.1 = some .boolean)
    | _ => false)
  | .lreturn => Nat.beq len 1 && decide (M.2.2.2.2.1 = some .long)
  | .dreturn => Nat.beq len 1 && decide (M.2.2.2.2.1 = some .double)
  | .return_ => Nat.beq len 1 && decide (M.2.2.2.2.1 = none)
  | _ => false
def ia_okE (Ts : List Cond) (Ns : List ia_N) (cl : List vw_C) (MT : List ia_M) (M : ia_M) (e : ia_E) : Bool := decide (decode M.2.2.1 e.1 = .ok (e.2.1, e.2.2.1)) && ia_okI Ts Ns cl MT M e
/-- a method's own words -/
def ia_okM (Ts : List Cond) (M : ia_M) : Bool := ia_wd Ts M.2.2.2.2.2.2.2.1.1 (Cond.code M.2.1 M.2.2.1 M.2.2.2.1 M.2.2.2.2.1) && ia_wd Ts M.2.2.2.2.2.2.2.1.2.1 (.initialized M.2.1.cls) && decide (M.2.1.cls ≠ "java/lang/invoke/MethodHandle" ∧ M.2.1.cls ≠ "java/lang/invoke/VarHandle") && decide ((parseMethodDescriptor M.2.1.desc).map (fun d => d.parameters.length) = some M.2.2.2.2.2.1) && plainName M.2.1.cls
/-- the whole list is as the class files and the words say -/
def ia_OK (Ts : List Cond) (Ns : List ia_N) (cl : List vw_C) (MT : List ia_M) : Prop := ∀ (y : Nat) (M : ia_M), ia_meth MT y = some M → ia_okM Ts M = true ∧ ∀ ch ∈ M.2.2.2.2.2.2.1, ∀ e ∈ ch, ia_okE Ts Ns cl MT M e = true
/-- shapes fit the classes -/
def ia_Sok (Sh : List ia_C) (ty0 : Nat → Nat → FieldType) : Prop := (∀ x ci ks b, ia_at? Sh x = some (.inr (.inl (ci, ks))) → (ia_kind ks b = some (.inr false) → ty0 ci b = .int) ∧ (ia_kind ks b = some (.inr true) → ty0 ci b = .long)) ∧ (∀ x C l, ia_at? Sh x = some (.inr (.inr (C, l))) → l.length < 2 ^ 31) ∧ ia_Z Sh
theorem ia_find_spec {pc : Nat} : ∀ {ch : List ia_E} {e : ia_E}, ia_find pc ch = some e → e.1 = pc ∧ e ∈ ch
  | [], _, h => by cases h
  | x :: t, e, h => by
    simp only [ia_find] at h
    cases hb : Nat.beq x.1 pc with
    | true => rw [hb] at h; cases h; exact ⟨ia_beq hb, List.mem_cons_self⟩
    | false =>
      rw [hb] at h
      obtain ⟨h1, h2⟩ := ia_find_spec (ch := t) h
      exact ⟨h1, List.mem_cons_of_mem _ h2⟩
theorem ia_piece_mem : ∀ {K : List (List ia_E)} {n : Nat} {e : ia_E}, e ∈ ia_piece K n → ∃ ch ∈ K, e ∈ ch
  | [], _, _, h => by cases h
  | c :: _, 0, _, h => ⟨c, List.mem_cons_self, h⟩
  | _ :: t, n + 1, _, h => by
    obtain ⟨ch, h1, h2⟩ := ia_piece_mem (K := t) (n := n) h
    exact ⟨ch, List.mem_cons_of_mem _ h1, h2⟩
section IA4
variable {p : Program} {l : Launch} {e : Env} {R : Room} {s : State} {m : MethodId} {args : Array Value} {below : List Frame} {meth : Method} {c : Code}
variable {D : va_G} {cl : List vw_C} {A : Nat → Prop} {tys : List (ClassId × FieldType)} {Sh : List ia_C} {ad : Nat → Nat} {ca : Nat → ClassId}
set_option maxHeartbeats 4000000 in
theorem ia_step_ok {Ts : List Cond} {Ns : List ia_N} {MT : List ia_M} {M : ia_M} {ty0 : Nat → Nat → FieldType} {y0 : Nat} {r0 : Option Value} {h1 : ia_H} (hOK : ia_OK Ts Ns cl MT) (hM0 : ia_meth MT y0 = some M) (hG : Ts.all goodWord = true) (hCl : ia_Cl Ts cl ty0) (hSok : ia_Sok Sh ty0) (hT : ia_T Sh ca tys)
    (hx : p.tables.exec = Jvm.exec) (hb : c.code = M.2.2.1) (hml : c.maxLocals = M.2.2.2.1) (hr : meth.sig.returnType = M.2.2.2.2.1) (hlocks : meth.locks = false) (hts : ∀ w ∈ Ts, w.before args s = true) (hown : s.vm.findClass M.2.1.cls = some m.cls) (hK : va_K D cl tys s) (hNs : ∀ w ∈ Ns, va_Nw (ia_nw w) s) (hA : ∀ q, s.heap.size ≤ q → A q)
    (t : ia_S) (h : ia_pre (ia_Mt l Ts Ns MT D cl tys Sh ad ca) (fun r1 h2 => r1 = r0 ∧ h2 = h1) (ia_X p l e (ia_rm M) s m args below meth c (MQ below (ia_Post D cl tys Sh ad ca A r0 h1) args s 0 0 A) 0 0 D cl A s.heap Sh ad ca M.2.2.2.1) (ia_step Sh M.2.2.2.2.2.2.1 t)) :
    ia_X p l e (ia_rm M) s m args below meth c (MQ below (ia_Post D cl tys Sh ad ca A r0 h1) args s 0 0 A) 0 0 D cl A s.heap Sh ad ca M.2.2.2.1 t := by
  obtain ⟨pc, ls, st, hh⟩ := t
  simp only [ia_step] at h
  split at h <;> first | exact h.elim | skip
  rename_i en hfind
  obtain ⟨hpc, hmem⟩ := ia_find_spec hfind
  obtain ⟨ch, hch, hech⟩ := ia_piece_mem hmem
  have hok := (hOK y0 M hM0).2 ch hch en hech
  obtain ⟨pc', ins, len, a, b, wi, v, ts⟩ := en
  simp only at hpc
  subst hpc
  simp only [ia_okE, Bool.and_eq_true, decide_eq_true_eq] at hok
  obtain ⟨hdg, hok⟩ := hok
  cases ins
  case aload_n =>
    have hl := ia_beq (by simpa only [ia_okI] using hok)
    subst hl
    exact ia_s_aload_n hx hb hdg h
  case iload_n =>
    have hl := ia_beq (by simpa only [ia_okI] using hok)
    subst hl
    exact ia_s_iload_n hx hb hdg h
  case lload_n =>
    have hl := ia_beq (by simpa only [ia_okI] using hok)
    subst hl
    exact ia_s_lload_n hx hb hdg h
  case dload_n =>
    have hl := ia_beq (by simpa only [ia_okI] using hok)
    subst hl
    exact ia_s_dload_n hx hb hdg h
  case aload =>
    have hl := ia_beq (by simpa only [ia_okI] using hok)
    subst hl
    exact ia_s_aload hx hb hdg h
  case iload =>
    have hl := ia_beq (by simpa only [ia_okI] using hok)
    subst hl
    exact ia_s_iload hx hb hdg h
  case lload =>
    have hl := ia_beq (by simpa only [ia_okI] using hok)
    subst hl
    exact ia_s_lload hx hb hdg h
  case astore_n =>
    simp only [ia_okI, Bool.and_eq_true, decide_eq_true_eq] at hok
    obtain ⟨hl, hk⟩ := hok
    have hl := ia_beq hl
    subst hl
    exact ia_s_astore_n hx hb hk hdg h
  case istore_n =>
    simp only [ia_okI, Bool.and_eq_true, decide_eq_true_eq] at hok
    obtain ⟨hl, hk⟩ := hok
    have hl := ia_beq hl
    subst hl
    exact ia_s_istore_n hx hb hk hdg h
  case astore =>
    simp only [ia_okI, Bool.and_eq_true, decide_eq_true_eq] at hok
    obtain ⟨hl, hk⟩ := hok
    have hl := ia_beq hl
    subst hl
    exact ia_s_astore hx hb hk hdg h
  case istore =>
    simp only [ia_okI, Bool.and_eq_true, decide_eq_true_eq] at hok
    obtain ⟨hl, hk⟩ := hok
    have hl := ia_beq hl
    subst hl
    exact ia_s_istore hx hb hk hdg h
  case lstore_n =>
    simp only [ia_okI, Bool.and_eq_true, decide_eq_true_eq] at hok
    obtain ⟨hl, hk⟩ := hok
    have hl := ia_beq hl
    subst hl
    exact ia_s_lstore_n hx hb hk hdg h
  case dstore_n =>
    simp only [ia_okI, Bool.and_eq_true, decide_eq_true_eq] at hok
    obtain ⟨hl, hk⟩ := hok
    have hl := ia_beq hl
    subst hl
    exact ia_s_dstore_n hx hb hk hdg h
  case lstore =>
    simp only [ia_okI, Bool.and_eq_true, decide_eq_true_eq] at hok
    obtain ⟨hl, hk⟩ := hok
    have hl := ia_beq hl
    subst hl
    exact ia_s_lstore hx hb hk hdg h
  case iinc =>
    simp only [ia_okI, Bool.and_eq_true, decide_eq_true_eq] at hok
    obtain ⟨⟨hl, hk⟩, hv⟩ := hok
    have hl := ia_beq hl
    subst hl
    subst hv
    exact ia_s_iinc hx hb hk hdg h
  case iconst =>
    simp only [ia_okI, Bool.and_eq_true, decide_eq_true_eq] at hok
    obtain ⟨hl, hv⟩ := hok
    have hl := ia_beq hl
    subst hl
    subst hv
    exact ia_s_iconst hx hb hdg h
  case bipush =>
    simp only [ia_okI, Bool.and_eq_true, decide_eq_true_eq] at hok
    obtain ⟨hl, hv⟩ := hok
    have hl := ia_beq hl
    subst hl
    subst hv
    exact ia_s_bipush hx hb hdg h
  case sipush =>
    simp only [ia_okI, Bool.and_eq_true, decide_eq_true_eq] at hok
    obtain ⟨hl, hv⟩ := hok
    have hl := ia_beq hl
    subst hl
    subst hv
    exact ia_s_sipush hx hb hdg h
  case lconst =>
    simp only [ia_okI, Bool.and_eq_true, decide_eq_true_eq] at hok
    obtain ⟨hl, hv⟩ := hok
    have hl := ia_beq hl
    subst hl
    subst hv
    exact ia_s_lconst hx hb hdg h
  case dconst =>
    simp only [ia_okI, Bool.and_eq_true, decide_eq_true_eq] at hok
    obtain ⟨hl, hk⟩ := hok
    have hl := ia_beq hl
    subst hl
    subst hk
    exact ia_s_dconst hx hb hdg h
  case ldc2_w =>
    simp only [ia_okI, Bool.and_eq_true, decide_eq_true_eq] at hok
    obtain ⟨hl, hk⟩ := hok
    have hl := ia_beq hl
    subst hl
    cases v
    case long x => exact ia_s_ldc2l hx hb hown (hts _ (ia_wd_mem (of_decide_eq_true hk))) hdg h
    case double x => exact ia_s_ldc2d hx hb hown (hts _ (ia_wd_mem (of_decide_eq_true hk))) hdg h
    all_goals (cases hk)
  case iadd =>
    have hl := ia_beq (by simpa only [ia_okI] using hok)
    subst hl
    exact ia_s_iadd hx hb hdg h
  case isub =>
    have hl := ia_beq (by simpa only [ia_okI] using hok)
    subst hl
    exact ia_s_isub hx hb hdg h
  case imul =>
    have hl := ia_beq (by simpa only [ia_okI] using hok)
    subst hl
    exact ia_s_imul hx hb hdg h
  case irem =>
    have hl := ia_beq (by simpa only [ia_okI] using hok)
    subst hl
    exact ia_s_irem hx hb hdg h
  case iand =>
    have hl := ia_beq (by simpa only [ia_okI] using hok)
    subst hl
    exact ia_s_iand hx hb hdg h
  case ixor =>
    have hl := ia_beq (by simpa only [ia_okI] using hok)
    subst hl
    exact ia_s_ixor hx hb hdg h
  case ishr =>
    have hl := ia_beq (by simpa only [ia_okI] using hok)
    subst hl
    exact ia_s_ishr hx hb hdg h
  case ladd =>
    have hl := ia_beq (by simpa only [ia_okI] using hok)
    subst hl
    exact ia_s_ladd hx hb hdg h
  case lsub =>
    have hl := ia_beq (by simpa only [ia_okI] using hok)
    subst hl
    exact ia_s_lsub hx hb hdg h
  case lmul =>
    have hl := ia_beq (by simpa only [ia_okI] using hok)
    subst hl
    exact ia_s_lmul hx hb hdg h
  case land =>
    have hl := ia_beq (by simpa only [ia_okI] using hok)
    subst hl
    exact ia_s_land hx hb hdg h
  case lor =>
    have hl := ia_beq (by simpa only [ia_okI] using hok)
    subst hl
    exact ia_s_lor hx hb hdg h
  case lneg =>
    have hl := ia_beq (by simpa only [ia_okI] using hok)
    subst hl
    exact ia_s_lneg hx hb hdg h
  case lshl =>
    have hl := ia_beq (by simpa only [ia_okI] using hok)
    subst hl
    exact ia_s_lshl hx hb hdg h
  case lcmp =>
    have hl := ia_beq (by simpa only [ia_okI] using hok)
    subst hl
    exact ia_s_lcmp hx hb hdg h
  case dadd =>
    have hl := ia_beq (by simpa only [ia_okI] using hok)
    subst hl
    exact ia_s_dadd hx hb hdg h
  case dmul =>
    have hl := ia_beq (by simpa only [ia_okI] using hok)
    subst hl
    exact ia_s_dmul hx hb hdg h
  case ddiv =>
    have hl := ia_beq (by simpa only [ia_okI] using hok)
    subst hl
    exact ia_s_ddiv hx hb hdg h
  case dneg =>
    have hl := ia_beq (by simpa only [ia_okI] using hok)
    subst hl
    exact ia_s_dneg hx hb hdg h
  case i2l =>
    have hl := ia_beq (by simpa only [ia_okI] using hok)
    subst hl
    exact ia_s_i2l hx hb hdg h
  case i2b =>
    have hl := ia_beq (by simpa only [ia_okI] using hok)
    subst hl
    exact ia_s_i2b hx hb hdg h
  case i2d =>
    have hl := ia_beq (by simpa only [ia_okI] using hok)
    subst hl
    exact ia_s_i2d hx hb hdg h
  case l2d =>
    have hl := ia_beq (by simpa only [ia_okI] using hok)
    subst hl
    exact ia_s_l2d hx hb hdg h
  case d2l =>
    have hl := ia_beq (by simpa only [ia_okI] using hok)
    subst hl
    exact ia_s_d2l hx hb hdg h
  case dup =>
    have hl := ia_beq (by simpa only [ia_okI] using hok)
    subst hl
    exact ia_s_dup hx hb hdg h
  case dup2 =>
    have hl := ia_beq (by simpa only [ia_okI] using hok)
    subst hl
    exact ia_s_dup2 hx hb hdg h
  case iaload =>
    have hl := ia_beq (by simpa only [ia_okI] using hok)
    subst hl
    exact ia_s_iaload hx hb hK hT hSok.2.2 hdg h
  case baload =>
    have hl := ia_beq (by simpa only [ia_okI] using hok)
    subst hl
    exact ia_s_baload hx hb hK hT hSok.2.2 hdg h
  case laload =>
    have hl := ia_beq (by simpa only [ia_okI] using hok)
    subst hl
    exact ia_s_laload hx hb hK hT hSok.2.2 hdg h
  case iastore =>
    have hl := ia_beq (by simpa only [ia_okI] using hok)
    subst hl
    exact ia_s_iastore hx hb hK hT hSok.2.2 hdg h
  case bastore =>
    have hl := ia_beq (by simpa only [ia_okI] using hok)
    subst hl
    exact ia_s_bastore hx hb hK hT hSok.2.2 hdg h
  case lastore =>
    have hl := ia_beq (by simpa only [ia_okI] using hok)
    subst hl
    exact ia_s_lastore hx hb hK hT hSok.2.2 hdg h
  case arraylength =>
    have hl := ia_beq (by simpa only [ia_okI] using hok)
    subst hl
    exact ia_s_arraylength hx hb hK hT hSok.2.2 hdg h
  case aaload =>
    have hl := ia_beq (by simpa only [ia_okI] using hok)
    subst hl
    exact ia_s_aaload hx hb hK hT hSok.2.1 hdg h
  case dcmp =>
    have hl := ia_beq (by simpa only [ia_okI] using hok)
    subst hl
    exact ia_s_dcmp hx hb hdg h
  case goto =>
    simp only [ia_okI, Bool.and_eq_true, decide_eq_true_eq] at hok
    obtain ⟨hl, hk⟩ := hok
    have hl := ia_beq hl
    subst hl
    exact ia_s_goto hx hb hk hdg h
  case if_icmp =>
    simp only [ia_okI, Bool.and_eq_true, decide_eq_true_eq] at hok
    rename_i cnd off
    obtain ⟨hl, hk⟩ := hok
    have hl := ia_beq hl
    subst hl
    cases cnd
    · exact ia_s_icmp_eq hx hb hk hdg h
    · exact ia_s_icmp_ne hx hb hk hdg h
    · exact ia_s_icmp_lt hx hb hk hdg h
    · exact ia_s_icmp_ge hx hb hk hdg h
    · exact ia_s_icmp_gt hx hb hk hdg h
    · exact ia_s_icmp_le hx hb hk hdg h
  case ifCond =>
    simp only [ia_okI, Bool.and_eq_true, decide_eq_true_eq] at hok
    rename_i cnd off
    obtain ⟨hl, hk⟩ := hok
    have hl := ia_beq hl
    subst hl
    cases cnd
    · exact ia_s_if_eq hx hb hk hdg h
    · exact ia_s_if_ne hx hb hk hdg h
    · exact ia_s_if_lt hx hb hk hdg h
    · exact ia_s_if_ge hx hb hk hdg h
    · exact ia_s_if_gt hx hb hk hdg h
    · exact ia_s_if_le hx hb hk hdg h
  case tableswitch =>
    simp only [ia_okI, Bool.and_eq_true, decide_eq_true_eq] at hok
    obtain ⟨⟨⟨⟨⟨k1, k2⟩, k3⟩, k4⟩, k5⟩, k6⟩ := hok
    exact ia_s_tableswitch hx hb k1 (fun o ho => of_decide_eq_true (List.all_eq_true.mp k2 o ho)) k3 k4 k5 k6 hdg h
  case lookupswitch =>
    simp only [ia_okI, Bool.and_eq_true, decide_eq_true_eq] at hok
    obtain ⟨⟨⟨k1, k2⟩, k3⟩, k4⟩ := hok
    exact ia_s_lookupswitch hx hb k1 k2 (fun o ho => by have q := List.all_eq_true.mp k3 o ho; simp only [Bool.and_eq_true, decide_eq_true_eq] at q; exact ⟨q.1.1, q.1.2, q.2⟩) k4 hdg h
  case getfield =>
    simp only [ia_okI, Bool.and_eq_true, decide_eq_true_eq] at hok
    obtain ⟨hl, hk⟩ := hok
    have hl := ia_beq hl
    subst hl
    split at hk
    · rename_i q hq
      simp only [Bool.and_eq_true, Bool.or_eq_true, decide_eq_true_eq] at hk
      rcases hk.2 with hw | hw
      · exact ia_s_getfield hx hb hts hown hK hCl hq hk.1 (hts _ (ia_wd_mem hw)) hdg h
      · exact ia_s_getfieldN hx hb hts hown hK hCl hq hk.1 (va_Nw.use rfl (hNs _ (List.mem_of_getElem? hw))) hdg h
    · cases hk
  case putfield =>
    simp only [ia_okI, Bool.and_eq_true, decide_eq_true_eq] at hok
    obtain ⟨hl, hk⟩ := hok
    have hl := ia_beq hl
    subst hl
    split at hk
    · rename_i q hq
      simp only [Bool.and_eq_true, Bool.or_eq_true, decide_eq_true_eq] at hk
      rcases hk.2 with hw | hw
      · exact ia_s_putfield hx hb hts hown hK hCl hq hk.1.1 (hts _ (ia_wd_mem hw)) hk.1.2 (fun x ci ks hc hci => by subst hci; exact hSok.1 x ci ks b hc) hdg h
      · exact ia_s_putfieldN hx hb hts hown hK hCl hq hk.1.1 (va_Nw.use rfl (hNs _ (List.mem_of_getElem? hw))) hk.1.2 (fun x ci ks hc hci => by subst hci; exact hSok.1 x ci ks b hc) hdg h
    · cases hk
  case invokevirtual =>
    simp only [ia_okI, Bool.and_eq_true, decide_eq_true_eq] at hok
    obtain ⟨hl, hk⟩ := hok
    have hl := ia_beq hl
    subst hl
    split at hk
    · rename_i M2 cj hM
      have hoM := (hOK _ _ hM).1
      simp only [ia_okM, Bool.and_eq_true, decide_eq_true_eq] at hoM
      obtain ⟨⟨⟨⟨o1, o2⟩, o3⟩, o4⟩, o5⟩ := hoM
      split at hk
      · rename_i q hq
        simp only [Bool.and_eq_true, decide_eq_true_eq] at hk
        obtain ⟨⟨⟨⟨⟨⟨k1, k2⟩, k3⟩, k4⟩, k5⟩, k6⟩, k7⟩ := hk
        have k2 := ia_beq k2
        exact ia_s_invokevirtual hx hb hNs hml hts hown hG hK hA ⟨Nat.le_refl _, Nat.le_refl _⟩ (ia_wd_mem o1) (ia_wd_mem o2) o3 (by rw [o4, k2]) (ia_wd_mem k3) ⟨k6, k7⟩ hM (ia_wd_mem k4) (ia_wd_mem k5) hq k1 hdg h
      · cases hk
    · cases hk
  case invokestatic =>
    simp only [ia_okI, Bool.and_eq_true, decide_eq_true_eq] at hok
    obtain ⟨hl, hk⟩ := hok
    have hl := ia_beq hl
    subst hl
    match a, hk, h with
    | 0, hk, h =>
      simp only [Bool.and_eq_true, decide_eq_true_eq] at hk
      obtain ⟨⟨⟨k1, k2⟩, k3⟩, k4⟩ := hk
      split at k2
      · simp only [Bool.and_eq_true, decide_eq_true_eq] at k2
        obtain ⟨⟨j1, j2⟩, j3⟩ := k2
        exact ia_s_d2raw hx hb hml hown (hts _ (ia_wd_mem k1)) (hts _ (ia_wd_mem j1)) (hts _ (ia_wd_mem j2)) (hts _ (ia_wd_mem j3)) k3 k4 hdg h
      · cases k2
    | 1, hk, h =>
      simp only [Bool.and_eq_true, decide_eq_true_eq] at hk
      obtain ⟨⟨⟨k1, k2⟩, k3⟩, k4⟩ := hk
      split at k2
      · simp only [Bool.and_eq_true, decide_eq_true_eq] at k2
        obtain ⟨⟨j1, j2⟩, j3⟩ := k2
        exact ia_s_arraycopy hx hb hml hown hK hT (hts _ (ia_wd_mem k1)) (hts _ (ia_wd_mem j1)) (hts _ (ia_wd_mem j2)) (hts _ (ia_wd_mem j3)) k3 k4 hdg h
      · cases k2
    | 2, hk, h =>
      simp only [Bool.and_eq_true, decide_eq_true_eq] at hk
      obtain ⟨⟨⟨k1, k2⟩, k3⟩, k4⟩ := hk
      split at k2
      · simp only [Bool.and_eq_true, decide_eq_true_eq] at k2
        obtain ⟨⟨j1, j2⟩, j3⟩ := k2
        exact ia_s_max_long hx hb hml hown (hts _ (ia_wd_mem k1)) (hts _ (ia_wd_mem j1)) (hts _ (ia_wd_mem j2)) (hts _ (ia_wd_mem j3)) k3 k4 ⟨Nat.le_refl _, Nat.le_refl _⟩ hdg h
      · cases k2
    | 3, hk, h =>
      simp only [Bool.and_eq_true, decide_eq_true_eq] at hk
      obtain ⟨⟨⟨k1, k2⟩, k3⟩, k4⟩ := hk
      split at k2
      · simp only [Bool.and_eq_true, decide_eq_true_eq] at k2
        obtain ⟨⟨j1, j2⟩, j3⟩ := k2
        exact ia_s_min_long hx hb hml hown (hts _ (ia_wd_mem k1)) (hts _ (ia_wd_mem j1)) (hts _ (ia_wd_mem j2)) (hts _ (ia_wd_mem j3)) k3 k4 ⟨Nat.le_refl _, Nat.le_refl _⟩ hdg h
      · cases k2
    | 4, hk, h =>
      simp only [Bool.and_eq_true, decide_eq_true_eq] at hk
      obtain ⟨⟨⟨k1, k2⟩, k3⟩, k4⟩ := hk
      split at k2
      · simp only [Bool.and_eq_true, decide_eq_true_eq] at k2
        obtain ⟨⟨j1, j2⟩, j3⟩ := k2
        exact ia_s_abs_long hx hb hml hown (hts _ (ia_wd_mem k1)) (hts _ (ia_wd_mem j1)) (hts _ (ia_wd_mem j2)) (hts _ (ia_wd_mem j3)) k3 k4 ⟨Nat.le_refl _, Nat.le_refl _⟩ hdg h
      · cases k2
    | 5, hk, h =>
      simp only [Bool.and_eq_true, decide_eq_true_eq] at hk
      obtain ⟨⟨⟨k1, k2⟩, k3⟩, k4⟩ := hk
      split at k2
      · simp only [Bool.and_eq_true, decide_eq_true_eq] at k2
        obtain ⟨⟨j1, j2⟩, j3⟩ := k2
        exact ia_s_min_int hx hb hml hown (hts _ (ia_wd_mem k1)) (hts _ (ia_wd_mem j1)) (hts _ (ia_wd_mem j2)) (hts _ (ia_wd_mem j3)) k3 k4 ⟨Nat.le_refl _, Nat.le_refl _⟩ hdg h
      · cases k2
    | a + 6, hk, h =>
      simp only at hk
      split at hk
      · rename_i M2 hM
        have hoM := (hOK _ _ hM).1
        simp only [ia_okM, Bool.and_eq_true, decide_eq_true_eq] at hoM
        obtain ⟨⟨⟨⟨o1, o2⟩, o3⟩, o4⟩, o5⟩ := hoM
        simp only [Bool.and_eq_true, decide_eq_true_eq] at hk
        obtain ⟨⟨⟨⟨k2, k3⟩, k4⟩, k6⟩, k7⟩ := hk
        have k2 := ia_beq k2
        exact ia_s_invokestatic hx hb hNs hml hts hown hG hK hA ⟨Nat.le_refl _, Nat.le_refl _⟩ (ia_wd_mem o1) (ia_wd_mem o2) o3 (by rw [o4, k2]) (ia_wd_mem k3) ⟨k6, k7⟩ hM (ia_wd_mem k4) hdg h
      · cases hk
  case ireturn =>
    simp only [ia_okI, Bool.and_eq_true, decide_eq_true_eq] at hok
    obtain ⟨hl, hk⟩ := hok
    have hl := ia_beq hl
    subst hl
    match a, hk, h with
    | 0, hk, h => exact ia_s_ireturn hx hb hlocks hK (by rw [hr]; exact of_decide_eq_true hk) hdg h
    | 1, hk, h => exact ia_s_zreturn hx hb hlocks hK (by rw [hr]; exact of_decide_eq_true hk) hdg h
    | n + 2, hk, h => cases hk
  case lreturn =>
    simp only [ia_okI, Bool.and_eq_true, decide_eq_true_eq] at hok
    obtain ⟨hl, hk⟩ := hok
    have hl := ia_beq hl
    subst hl
    exact ia_s_lreturn hx hb hlocks hK (by rw [hr]; exact hk) hdg h
  case dreturn =>
    simp only [ia_okI, Bool.and_eq_true, decide_eq_true_eq] at hok
    obtain ⟨hl, hk⟩ := hok
    have hl := ia_beq hl
    subst hl
    exact ia_s_dreturn hx hb hlocks hK (by rw [hr]; exact hk) hdg h
  case return_ =>
    simp only [ia_okI, Bool.and_eq_true, decide_eq_true_eq] at hok
    obtain ⟨hl, hk⟩ := hok
    have hl := ia_beq hl
    subst hl
    exact ia_s_return hx hb hlocks hK (by rw [hr]; exact hk) hdg h
  all_goals (exact absurd hok (by simp [ia_okI]))
theorem ia_args_len (ad : Nat → Nat) : ∀ as : List Value, (lg_sl (as.map (ia_v ad))).length = (ia_args as).length
  | [] => rfl
  | v :: vs => by
    have ih := ia_args_len ad vs
    have e : ∀ (x : Value) (xs : List Value), lg_sl (x :: xs) = (if x.category = 2 then [Slot.val x, Slot.second] else [Slot.val x]) ++ lg_sl xs := fun x xs => by simp [lg_sl]
    rw [List.map_cons, e, List.length_append, ih]
    cases v <;> simp [ia_v, Value.category, ia_args] <;> omega
theorem ia_args_mem (ad : Nat → Nat) (n : Nat) : ∀ (as : List Value) (i0 i : Nat) (v : Value), ia_get (ia_args as ++ List.replicate n none) i = some v → (i0 + i, ia_v ad v) ∈ lv_args i0 (as.map (ia_v ad))
  | [], i0, i, v, h => by
    simp only [ia_args, List.nil_append, ia_get_none] at h
    cases h
  | u :: us, i0, i, v, h => by
    have two : ∀ x : Value, x.category = 2 → ia_args (u :: us) = some x :: none :: ia_args us → u = x → (i0 + i, ia_v ad v) ∈ lv_args i0 ((u :: us).map (ia_v ad)) := by
      intro x hx he hu
      rw [he] at h
      simp only [List.map_cons, lv_args, ia_cat, hu, hx, if_true]
      match i, h with
      | 0, h => cases h; exact List.mem_cons_self
      | 1, h => cases h
      | i + 2, h => exact List.mem_cons_of_mem _ (by rw [show i0 + (i + 2) = i0 + 2 + i by omega]; exact ia_args_mem ad n us (i0 + 2) i v h)
    have one : ¬ u.category = 2 → ia_args (u :: us) = some u :: ia_args us → (i0 + i, ia_v ad v) ∈ lv_args i0 ((u :: us).map (ia_v ad)) := by
      intro hx he
      rw [he] at h
      simp only [List.map_cons, lv_args, ia_cat, hx, if_false]
      match i, h with
      | 0, h => cases h; exact List.mem_cons_self
      | i + 1, h => exact List.mem_cons_of_mem _ (by rw [show i0 + (i + 1) = i0 + 1 + i by omega]; exact ia_args_mem ad n us (i0 + 1) i v h)
    cases u with
    | long x => exact two _ rfl rfl rfl
    | double x => exact two _ rfl rfl rfl
    | int x => exact one (by simp [Value.category]) rfl
    | float x => exact one (by simp [Value.category]) rfl
    | ref x => exact one (by simp [Value.category]) rfl
    | null => exact one (by simp [Value.category]) rfl
    | retAddr x => exact one (by simp [Value.category]) rfl
set_option maxHeartbeats 4000000 in
/-- WHAT THE PURE MACHINE SAYS OF A METHOD IS ITS CONTRACT -/
theorem ia_sound {l : Launch} {Ts : List Cond} {Ns : List ia_N} {MT : List ia_M} {D : va_G} {cl : List vw_C} {tys : List (ClassId × FieldType)} {Sh : List ia_C} {ad : Nat → Nat} {ca : Nat → ClassId} {ty0 : Nat → Nat → FieldType} (hOK : ia_OK Ts Ns cl MT) (hG : Ts.all goodWord = true) (hCl : ia_Cl Ts cl ty0) (hSok : ia_Sok Sh ty0) (hT : ia_T Sh ca tys)
    {y : Nat} {as : List Value} {h : ia_H} {r : Option Value} {h' : ia_H} (hE : ia_Ev Sh MT y as h r h') : ia_Mt l Ts Ns MT D cl tys Sh ad ca y as h r h' := by
  refine hE (ia_Mt l Ts Ns MT D cl tys Sh ad ca) ?_
  intro y as h r h' M hM hn hRun M2 hM2 sz
  have e0 : M2 = M := Option.some.inj (hM2.symm.trans hM)
  subst e0
  have hoM := (hOK _ _ hM).1
  simp only [ia_okM, Bool.and_eq_true, decide_eq_true_eq] at hoM
  refine Met.ofW (cc := M2.2.2.1) (maxL := M2.2.2.2.1) (ret := M2.2.2.2.2.1) hoM.2 rfl ?_
  intro p e s m args below meth c s₁ B hml hv
  obtain ⟨rfl, hsz, hP, hK, hD0, hNs⟩ := hv
  have hts := atoms_spec (ws := ia_ws Ts M2) B.pre
  have hown : s.vm.findClass M2.2.1.cls = some m.cls := findClass_of_methodNamed B.named
  subst hsz
  have hD := hD0.self (sz := s.heap.size)
  have hA : ∀ q : Nat, s.heap.size ≤ q → va_A (ia_w ad ca h 0 Sh) s.heap.size q := fun q hq => Or.inr hq
  have key := hRun _ (ia_step_ok (p := p) (l := l) (e := e) (s := s) (m := m) (args := (as.map (ia_v ad)).toArray) (below := below) (meth := meth) (c := c) (A := va_A (ia_w ad ca h 0 Sh) s.heap.size) hOK hM hG hCl hSok hT B.exec B.bytes hml B.returns B.notSynchronized (fun w hw => hts w (List.mem_cons_of_mem _ hw)) hown hK hNs hA)
  have hln : (lg_sl (as.map (ia_v ad))).length ≤ M2.2.2.2.1 := by rw [ia_args_len]; exact hn
  have hl := lv_entry (as.map (ia_v ad)) (n := M2.2.2.2.1) hln
  rw [lg_entry_eq]
  exact key s.heap [] _ hP hD va_S.rf (ia_R_of (by simp [ia_enter]; omega) hl (fun q hq => by
    obtain ⟨v, hg, hv⟩ := ia_al_mem.mp hq
    have := ia_args_mem ad _ as 0 q.1 v hg
    rw [Nat.zero_add, ← hv] at this
    exact this))
end IA4
end
