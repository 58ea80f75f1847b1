section
/-! A PURE MACHINE over a fixed set of cells: what a method does, said without the JVM's heap.
Cells never come or go here and references in them never change, so the heap's picture is just its numbers:
h.1 cell place (ints, bytes, booleans), h.2 cell place (longs). A reference is the number of its cell. -/
abbrev ia_C : Type := (FieldType × Nat) ⊕ ((Nat × List (Nat ⊕ Bool)) ⊕ (String × List Nat))
abbrev ia_H : Type := (Nat → Nat → Int32) × (Nat → Nat → Int64)
abbrev ia_L : Type := List (Option Value)
/-- pc, locals, stack, heap -/
abbrev ia_S : Type := Nat × ia_L × List Value × ia_H
/-- an entry of a method's table: place, instruction, length, two numbers (target, class and slot, callee and parameters), place of its word, constant, switch -/
abbrev ia_E : Type := Nat × Instr × Nat × Nat × Nat × Nat × Value × List (Int × Nat)
/-- what an instruction does: go on; go on under a guard; go on at a place of an array; branch; switch; call; return; return under a guard -/
abbrev ia_O : Type := Option (ia_S ⊕ ((Prop × ia_S) ⊕ ((Int32 × Nat × (Nat → ia_S)) ⊕ ((Prop × ia_S × ia_S) ⊕ ((Int32 × List (Int × Nat) × Nat × ia_L × List Value × ia_H) ⊕ ((Nat × List Value × Nat × ia_L × List Value × ia_H) ⊕ ((Option Value × ia_H) ⊕ (Prop × Option Value × ia_H))))))))
abbrev ia_go (s : ia_S) : ia_O := some (.inl s)
abbrev ia_gd (g : Prop) (s : ia_S) : ia_O := some (.inr (.inl (g, s)))
abbrev ia_ix (i : Int32) (n : Nat) (s : Nat → ia_S) : ia_O := some (.inr (.inr (.inl (i, n, s))))
abbrev ia_br (c : Prop) (s t : ia_S) : ia_O := some (.inr (.inr (.inr (.inl (c, s, t)))))
abbrev ia_swo (x : Int32) (ts : List (Int × Nat)) (d : Nat) (ls : ia_L) (st : List Value) (h : ia_H) : ia_O := some (.inr (.inr (.inr (.inr (.inl (x, ts, d, ls, st, h))))))
abbrev ia_call (y : Nat) (as : List Value) (pc : Nat) (ls : ia_L) (st : List Value) (h : ia_H) : ia_O := some (.inr (.inr (.inr (.inr (.inr (.inl (y, as, pc, ls, st, h)))))))
abbrev ia_ret (r : Option Value) (h : ia_H) : ia_O := some (.inr (.inr (.inr (.inr (.inr (.inr (.inl (r, h))))))))
abbrev ia_rg (g : Prop) (r : Option Value) (h : ia_H) : ia_O := some (.inr (.inr (.inr (.inr (.inr (.inr (.inr (g, r, h))))))))
def ia_get : ia_L → Nat → Option Value
  | [], _ => none
  | v :: _, 0 => v
  | _ :: t, k + 1 => ia_get t k
def ia_set : ia_L → Nat → Option Value → ia_L
  | [], _, _ => []
  | _ :: t, 0, v => v :: t
  | w :: t, k + 1, v => w :: ia_set t k v
/-- a long or double that ends at place i is gone -/
def ia_clr (ls : ia_L) : Nat → ia_L
  | 0 => ls
  | k + 1 => match ia_get ls k with
    | some (.long _) => ia_set ls k none
    | some (.double _) => ia_set ls k none
    | _ => ls
def ia_st1 (ls : ia_L) (i : Nat) (v : Value) : ia_L := ia_set (ia_clr ls i) i (some v)
def ia_st2 (ls : ia_L) (i : Nat) (v : Value) : ia_L := ia_set (ia_set (ia_clr ls i) i (some v)) (i + 1) none
def ia_setK {α : Type} : ia_L → Nat → Option Value → (ia_L → α) → α
  | [], _, _, k => k []
  | _ :: t, 0, v, k => k (v :: t)
  | w :: t, i + 1, v, k => ia_setK t i v (fun t' => k (w :: t'))
theorem ia_setK_eq {α : Type} : ∀ (ls : ia_L) (i : Nat) (v : Option Value) (k : ia_L → α), ia_setK ls i v k = k (ia_set ls i v)
  | [], _, _, _ => rfl
  | _ :: _, 0, _, _ => rfl
  | _ :: t, i + 1, v, _ => ia_setK_eq t i v _
def ia_st1K {α : Type} (ls : ia_L) (i : Nat) (v : Value) (k : ia_L → α) : α := match i with
  | 0 => ia_setK ls 0 (some v) k
  | j + 1 => match ia_get ls j with
    | some (.long _) => ia_setK ls j none (fun l => ia_setK l (j + 1) (some v) k)
    | some (.double _) => ia_setK ls j none (fun l => ia_setK l (j + 1) (some v) k)
    | _ => ia_setK ls (j + 1) (some v) k
theorem ia_st1K_eq {α : Type} (ls : ia_L) (i : Nat) (v : Value) (k : ia_L → α) : ia_st1K ls i v k = k (ia_st1 ls i v) := by
  cases i with
  | zero => simp only [ia_st1K, ia_st1, ia_clr, ia_setK_eq]
  | succ j =>
    simp only [ia_st1K, ia_st1, ia_clr]
    split <;> simp only [ia_setK_eq]
def ia_st2K {α : Type} (ls : ia_L) (i : Nat) (v : Value) (k : ia_L → α) : α := ia_st1K ls i v (fun l => ia_setK l (i + 1) none k)
theorem ia_st2K_eq {α : Type} (ls : ia_L) (i : Nat) (v : Value) (k : ia_L → α) : ia_st2K ls i v k = k (ia_st2 ls i v) := by
  simp only [ia_st2K, ia_st1K_eq, ia_setK_eq, ia_st2, ia_st1]
def ia_uI (f : Nat → Nat → Int32) (x i : Nat) (v : Int32) : Nat → Nat → Int32 := fun y => if y = x then upd (f x) i v else f y
def ia_uL (f : Nat → Nat → Int64) (x i : Nat) (v : Int64) : Nat → Nat → Int64 := fun y => if y = x then vp_updL (f x) i v else f y
def ia_cpI (f : Nat → Nat → Int32) (x0 x1 sp dp n : Nat) : Nat → Nat → Int32 := fun y => if y = x1 then va_cpy (f x0) (f x1) sp dp n else f y
def ia_at? (Sh : List ia_C) (x : Nat) : Option ia_C := match Sh, x with
  | [], _ => none
  | c :: _, 0 => some c
  | _ :: t, k + 1 => ia_at? t k
def ia_kind : List (Nat ⊕ Bool) → Nat → Option (Nat ⊕ Bool)
  | [], _ => none
  | c :: _, 0 => some c
  | _ :: t, k + 1 => ia_kind t k
def ia_pick : List Nat → Nat → Option Nat
  | [], _ => none
  | c :: _, 0 => some c
  | _ :: t, k + 1 => ia_pick t k
/-- n values off the stack, the deepest first -/
def ia_pop : Nat → List Value → List Value → Option (List Value × List Value)
  | 0, acc, st => some (acc, st)
  | _ + 1, _, [] => none
  | n + 1, acc, v :: st => ia_pop n (v :: acc) st
def ia_f (Sh : List ia_C) (e : ia_E) (ls : ia_L) (st : List Value) (h : ia_H) : ia_O :=
  match e with
  | (pc, ins, len, a, b, _, v, ts) =>
  match ins with
  | .aload_n k => match ia_get ls k.val with
    | some (.ref x) => ia_go (pc + len, ls, .ref x :: st, h)
    | _ => none
  | .aload k => match ia_get ls k with
    | some (.ref x) => ia_go (pc + len, ls, .ref x :: st, h)
    | _ => none
  | .iload_n k => match ia_get ls k.val with
    | some (.int x) => ia_go (pc + len, ls, .int x :: st, h)
    | _ => none
  | .iload k => match ia_get ls k with
    | some (.int x) => ia_go (pc + len, ls, .int x :: st, h)
    | _ => none
  | .lload_n k => match ia_get ls k.val with
    | some (.long x) => ia_go (pc + len, ls, .long x :: st, h)
    | _ => none
  | .lload k => match ia_get ls k with
    | some (.long x) => ia_go (pc + len, ls, .long x :: st, h)
    | _ => none
  | .dload_n k => match ia_get ls k.val with
    | some (.double x) => ia_go (pc + len, ls, .double x :: st, h)
    | _ => none
  | .astore_n k => match st with
    | .ref x :: st => ia_st1K ls k.val (.ref x) (fun l => ia_go (pc + len, l, st, h))
    | _ => none
  | .astore k => match st with
    | .ref x :: st => ia_st1K ls k (.ref x) (fun l => ia_go (pc + len, l, st, h))
    | _ => none
  | .istore_n k => match st with
    | .int x :: st => ia_st1K ls k.val (.int x) (fun l => ia_go (pc + len, l, st, h))
    | _ => none
  | .istore k => match st with
    | .int x :: st => ia_st1K ls k (.int x) (fun l => ia_go (pc + len, l, st, h))
    | _ => none
  | .lstore_n k => match st with
    | .long x :: st => ia_st2K ls k.val (.long x) (fun l => ia_go (pc + len, l, st, h))
    | _ => none
  | .lstore k => match st with
    | .long x :: st => ia_st2K ls k (.long x) (fun l => ia_go (pc + len, l, st, h))
    | _ => none
  | .dstore_n k => match st with
    | .double x :: st => ia_st2K ls k.val (.double x) (fun l => ia_go (pc + len, l, st, h))
    | _ => none
  | .iinc k _ => match ia_get ls k with
    | some (.int x) => match v with
      | .int n => ia_st1K ls k (.int (x + n)) (fun l => ia_go (pc + len, l, st, h))
      | _ => none
    | _ => none
  | .iconst _ => match v with
    | .int x => ia_go (pc + len, ls, .int x :: st, h)
    | _ => none
  | .bipush _ => match v with
    | .int x => ia_go (pc + len, ls, .int x :: st, h)
    | _ => none
  | .sipush _ => match v with
    | .int x => ia_go (pc + len, ls, .int x :: st, h)
    | _ => none
  | .lconst _ => match v with
    | .long x => ia_go (pc + len, ls, .long x :: st, h)
    | _ => none
  | .dconst n => match n.val with
    | 0 => ia_go (pc + len, ls, .double FP.dconst0 :: st, h)
    | _ => none
  | .ldc2_w _ => match v with
    | .long x => ia_go (pc + len, ls, .long x :: st, h)
    | .double x => ia_go (pc + len, ls, .double x :: st, h)
    | _ => none
  | .iadd => match st with
    | .int y :: .int x :: st => ia_go (pc + len, ls, .int (x + y) :: st, h)
    | _ => none
  | .isub => match st with
    | .int y :: .int x :: st => ia_go (pc + len, ls, .int (x - y) :: st, h)
    | _ => none
  | .imul => match st with
    | .int y :: .int x :: st => ia_go (pc + len, ls, .int (x * y) :: st, h)
    | _ => none
  | .irem => match st with
    | .int y :: .int x :: st => ia_gd (¬ y = 0) (pc + len, ls, .int (x - x / y * y) :: st, h)
    | _ => none
  | .iand => match st with
    | .int y :: .int x :: st => ia_go (pc + len, ls, .int (x &&& y) :: st, h)
    | _ => none
  | .ixor => match st with
    | .int y :: .int x :: st => ia_go (pc + len, ls, .int (x ^^^ y) :: st, h)
    | _ => none
  | .ishr => match st with
    | .int y :: .int x :: st => ia_go (pc + len, ls, .int (x >>> (y &&& 31)) :: st, h)
    | _ => none
  | .ladd => match st with
    | .long y :: .long x :: st => ia_go (pc + len, ls, .long (x + y) :: st, h)
    | _ => none
  | .lsub => match st with
    | .long y :: .long x :: st => ia_go (pc + len, ls, .long (x - y) :: st, h)
    | _ => none
  | .lmul => match st with
    | .long y :: .long x :: st => ia_go (pc + len, ls, .long (x * y) :: st, h)
    | _ => none
  | .land => match st with
    | .long y :: .long x :: st => ia_go (pc + len, ls, .long (x &&& y) :: st, h)
    | _ => none
  | .lor => match st with
    | .long y :: .long x :: st => ia_go (pc + len, ls, .long (x ||| y) :: st, h)
    | _ => none
  | .lneg => match st with
    | .long x :: st => ia_go (pc + len, ls, .long (-x) :: st, h)
    | _ => none
  | .lshl => match st with
    | .int y :: .long x :: st => ia_go (pc + len, ls, .long (x <<< (y.toInt64 &&& 63)) :: st, h)
    | _ => none
  | .lcmp => match st with
    | .long y :: .long x :: st => ia_go (pc + len, ls, .int (lg_cmp x y) :: st, h)
    | _ => none
  | .dcmp op => match st with
    | .double y :: .double x :: st => ia_go (pc + len, ls, .int (Op.cmpValue (FP.dcmp x y) op) :: st, h)
    | _ => none
  | .dadd => match st with
    | .double y :: .double x :: st => ia_gd (vf_n64 (FP.dadd x y)) (pc + len, ls, .double (FP.dadd x y) :: st, h)
    | _ => none
  | .dmul => match st with
    | .double y :: .double x :: st => ia_gd (vf_n64 (FP.dmul x y)) (pc + len, ls, .double (FP.dmul x y) :: st, h)
    | _ => none
  | .ddiv => match st with
    | .double y :: .double x :: st => ia_gd (vf_n64 (FP.ddiv x y)) (pc + len, ls, .double (FP.ddiv x y) :: st, h)
    | _ => none
  | .dneg => match st with
    | .double x :: st => ia_go (pc + len, ls, .double (FP.dneg x) :: st, h)
    | _ => none
  | .i2l => match st with
    | .int x :: st => ia_go (pc + len, ls, .long x.toInt64 :: st, h)
    | _ => none
  | .i2b => match st with
    | .int x :: st => ia_go (pc + len, ls, .int x.toInt8.toInt32 :: st, h)
    | _ => none
  | .i2d => match st with
    | .int x :: st => ia_go (pc + len, ls, .double (FP.i2d x) :: st, h)
    | _ => none
  | .l2d => match st with
    | .long x :: st => ia_go (pc + len, ls, .double (FP.l2d x) :: st, h)
    | _ => none
  | .d2l => match st with
    | .double x :: st => ia_go (pc + len, ls, .long (FP.d2l x) :: st, h)
    | _ => none
  | .dup => match st with
    | .int x :: st => ia_go (pc + len, ls, .int x :: .int x :: st, h)
    | .ref x :: st => ia_go (pc + len, ls, .ref x :: .ref x :: st, h)
    | _ => none
  | .dup2 => match st with
    | .int y :: .int x :: st => ia_go (pc + len, ls, .int y :: .int x :: .int y :: .int x :: st, h)
    | .int y :: .ref x :: st => ia_go (pc + len, ls, .int y :: .ref x :: .int y :: .ref x :: st, h)
    | _ => none
  | .goto _ => ia_go (a, ls, st, h)
  | .if_icmp c _ => match st with
    | .int y :: .int x :: st => match c with
      | .eq => ia_br (x = y) (a, ls, st, h) (pc + len, ls, st, h)
      | .ne => ia_br (x = y) (pc + len, ls, st, h) (a, ls, st, h)
      | .lt => ia_br (x < y) (a, ls, st, h) (pc + len, ls, st, h)
      | .ge => ia_br (x < y) (pc + len, ls, st, h) (a, ls, st, h)
      | .gt => ia_br (y < x) (a, ls, st, h) (pc + len, ls, st, h)
      | .le => ia_br (y < x) (pc + len, ls, st, h) (a, ls, st, h)
    | _ => none
  | .ifCond c _ => match st with
    | .int x :: st => match c with
      | .eq => ia_br (x = 0) (a, ls, st, h) (pc + len, ls, st, h)
      | .ne => ia_br (x = 0) (pc + len, ls, st, h) (a, ls, st, h)
      | .lt => ia_br (x < 0) (a, ls, st, h) (pc + len, ls, st, h)
      | .ge => ia_br (x < 0) (pc + len, ls, st, h) (a, ls, st, h)
      | .gt => ia_br (0 < x) (a, ls, st, h) (pc + len, ls, st, h)
      | .le => ia_br (0 < x) (pc + len, ls, st, h) (a, ls, st, h)
    | _ => none
  | .tableswitch _ _ _ _ => match st with
    | .int x :: st => ia_swo x ts a ls st h
    | _ => none
  | .lookupswitch _ _ => match st with
    | .int x :: st => ia_swo x ts a ls st h
    | _ => none
  | .getfield _ => match st with
    | .ref x :: st => match ia_at? Sh x with
      | some (.inr (.inl (ci, ks))) => bif Nat.beq ci a then (match ia_kind ks b with
        | some (.inl y) => ia_go (pc + len, ls, .ref y :: st, h)
        | some (.inr false) => ia_go (pc + len, ls, .int (h.1 x b) :: st, h)
        | some (.inr true) => ia_go (pc + len, ls, .long (h.2 x b) :: st, h)
        | none => none) else none
      | _ => none
    | _ => none
  | .putfield _ => match st with
    | .int z :: .ref x :: st => match ia_at? Sh x with
      | some (.inr (.inl (ci, ks))) => bif Nat.beq ci a then (match ia_kind ks b with
        | some (.inr false) => ia_go (pc + len, ls, st, (ia_uI h.1 x b z, h.2))
        | _ => none) else none
      | _ => none
    | .long z :: .ref x :: st => match ia_at? Sh x with
      | some (.inr (.inl (ci, ks))) => bif Nat.beq ci a then (match ia_kind ks b with
        | some (.inr true) => ia_go (pc + len, ls, st, (h.1, ia_uL h.2 x b z))
        | _ => none) else none
      | _ => none
    | _ => none
  | .iaload => match st with
    | .int i :: .ref x :: st => match ia_at? Sh x with
      | some (.inl (.int, n)) => ia_ix i n (fun j => (pc + len, ls, .int (h.1 x j) :: st, h))
      | _ => none
    | _ => none
  | .baload => match st with
    | .int i :: .ref x :: st => match ia_at? Sh x with
      | some (.inl (.byte, n)) => ia_ix i n (fun j => (pc + len, ls, .int (h.1 x j) :: st, h))
      | some (.inl (.boolean, n)) => ia_ix i n (fun j => (pc + len, ls, .int (h.1 x j) :: st, h))
      | _ => none
    | _ => none
  | .laload => match st with
    | .int i :: .ref x :: st => match ia_at? Sh x with
      | some (.inl (.long, n)) => ia_ix i n (fun j => (pc + len, ls, .long (h.2 x j) :: st, h))
      | _ => none
    | _ => none
  | .iastore => match st with
    | .int z :: .int i :: .ref x :: st => match ia_at? Sh x with
      | some (.inl (.int, n)) => ia_ix i n (fun j => (pc + len, ls, st, (ia_uI h.1 x j z, h.2)))
      | _ => none
    | _ => none
  | .bastore => match st with
    | .int z :: .int i :: .ref x :: st => match ia_at? Sh x with
      | some (.inl (.byte, n)) => ia_ix i n (fun j => (pc + len, ls, st, (ia_uI h.1 x j (vp_nar .byte z), h.2)))
      | some (.inl (.boolean, n)) => ia_ix i n (fun j => (pc + len, ls, st, (ia_uI h.1 x j (vp_nar .boolean z), h.2)))
      | _ => none
    | _ => none
  | .lastore => match st with
    | .long z :: .int i :: .ref x :: st => match ia_at? Sh x with
      | some (.inl (.long, n)) => ia_ix i n (fun j => (pc + len, ls, st, (h.1, ia_uL h.2 x j z)))
      | _ => none
    | _ => none
  | .aaload => match st with
    | .int i :: .ref x :: st => match ia_at? Sh x with
      | some (.inr (.inr (_, l))) => ia_ix i l.length (fun j => (pc + len, ls, .ref ((ia_pick l j).getD 0) :: st, h))
      | _ => none
    | _ => none
  | .arraylength => match st with
    | .ref x :: st => match ia_at? Sh x with
      | some (.inl (_, n)) => ia_go (pc + len, ls, .int (Int32.ofNat n) :: st, h)
      | some (.inr (.inr (_, l))) => ia_go (pc + len, ls, .int (Int32.ofNat l.length) :: st, h)
      | _ => none
    | _ => none
  | .invokevirtual _ => match ia_pop b [] st with
    | some (as, .ref x :: st) => match ia_at? Sh x with
      | some (.inr (.inl (ci, _))) => match v with
        | .ref cj => bif Nat.beq ci cj then (bif Nat.ble st.length 4 then ia_call a (.ref x :: as) (pc + len) ls st h else none) else none
        | _ => none
      | _ => none
    | _ => none
  | .invokestatic _ => match a with
    | 0 => match st with
      | .double x :: st => bif Nat.ble st.length 4 then ia_go (pc + len, ls, .long x.toInt64 :: st, h) else none
      | _ => none
    | 1 => match st with
      | .int n :: .int dp :: .ref y :: .int sp :: .ref x :: st => match ia_at? Sh x with
        | some (.inl (.int, n0)) => match ia_at? Sh y with
          | some (.inl (.int, n1)) => bif Nat.ble st.length 4 then ia_gd (¬ sp < 0 ∧ ¬ dp < 0 ∧ ¬ n < 0 ∧ sp.toNatClampNeg + n.toNatClampNeg ≤ n0 ∧ dp.toNatClampNeg + n.toNatClampNeg ≤ n1) (pc + len, ls, st, (ia_cpI h.1 x y sp.toNatClampNeg dp.toNatClampNeg n.toNatClampNeg, h.2)) else none
          | _ => none
        | some (.inl (.byte, n0)) => match ia_at? Sh y with
          | some (.inl (.byte, n1)) => bif Nat.ble st.length 4 then ia_gd (¬ sp < 0 ∧ ¬ dp < 0 ∧ ¬ n < 0 ∧ sp.toNatClampNeg + n.toNatClampNeg ≤ n0 ∧ dp.toNatClampNeg + n.toNatClampNeg ≤ n1 ∧ ∀ i, i < n.toNatClampNeg → fits .byte (.int (h.1 x (sp.toNatClampNeg + i))) = true) (pc + len, ls, st, (ia_cpI h.1 x y sp.toNatClampNeg dp.toNatClampNeg n.toNatClampNeg, h.2)) else none
          | _ => none
        | _ => none
      | _ => none
    | 2 => match st with
      | .long y :: .long x :: st => bif Nat.ble st.length 4 then ia_go (pc + len, ls, .long (if y < x then x else y) :: st, h) else none
      | _ => none
    | 3 => match st with
      | .long y :: .long x :: st => bif Nat.ble st.length 4 then ia_go (pc + len, ls, .long (if y < x then y else x) :: st, h) else none
      | _ => none
    | 4 => match st with
      | .long x :: st => bif Nat.ble st.length 4 then ia_go (pc + len, ls, .long (if 0 < x then x else -x) :: st, h) else none
      | _ => none
    | 5 => match st with
      | .int y :: .int x :: st => bif Nat.ble st.length 4 then ia_go (pc + len, ls, .int (if y < x then y else x) :: st, h) else none
      | _ => none
    | a + 6 => match ia_pop b [] st with
      | some (as, st) => bif Nat.ble st.length 4 then ia_call a as (pc + len) ls st h else none
      | none => none
  | .ireturn => match st with
    | [.int x] => match a with
      | 0 => ia_ret (some (.int x)) h
      | _ => ia_rg (x = 0 ∨ x = 1) (some (.int x)) h
    | _ => none
  | .lreturn => match st with
    | [.long x] => ia_ret (some (.long x)) h
    | _ => none
  | .dreturn => match st with
    | [.double x] => ia_ret (some (.double x)) h
    | _ => none
  | .return_ => match st with
    | [] => ia_ret none h
    | _ => none
  | _ => none
/-- a switch: the cases one after the other -/
def ia_sw (X : ia_S → Prop) (x : Int32) (d : Nat) (ls : ia_L) (st : List Value) (h : ia_H) : List (Int × Nat) → Prop
  | [] => X (d, ls, st, h)
  | (k, t) :: ts => (x = Int32.ofInt k → X (t, ls, st, h)) ∧ (¬ x = Int32.ofInt k → ia_sw X x d ls st h ts)
/-- one step: what must hold so that X holds behind it; C: what calls do; Z: what must hold at the end -/
def ia_pre (C : Nat → List Value → ia_H → Option Value → ia_H → Prop) (Z : Option Value → ia_H → Prop) (X : ia_S → Prop) : ia_O → Prop
  | none => False
  | some (.inl s) => X s
  | some (.inr (.inl (g, s))) => ∃ _ : g, X s
  | some (.inr (.inr (.inl (i, n, s)))) => ∃ j : Nat, (i = nI j ∧ j < n) ∧ X (s j)
  | some (.inr (.inr (.inr (.inl (c, s, t))))) => (c → X s) ∧ (¬ c → X t)
  | some (.inr (.inr (.inr (.inr (.inl (x, ts, d, ls, st, h)))))) => ia_sw X x d ls st h ts
  | some (.inr (.inr (.inr (.inr (.inr (.inl (y, as, pc, ls, st, h))))))) => ∃ q : Option Value × ia_H, C y as h q.1 q.2 ∧ X (pc, ls, q.1.toList ++ st, q.2)
  | some (.inr (.inr (.inr (.inr (.inr (.inr (.inl (r, h)))))))) => Z r h
  | some (.inr (.inr (.inr (.inr (.inr (.inr (.inr (g, r, h)))))))) => ∃ _ : g, Z r h
theorem ia_sw_mono {X Y : ia_S → Prop} (hXY : ∀ s, X s → Y s) {x : Int32} {d : Nat} {ls : ia_L} {st : List Value} {h : ia_H} : ∀ {ts : List (Int × Nat)}, ia_sw X x d ls st h ts → ia_sw Y x d ls st h ts
  | [], hx => hXY _ hx
  | (_, _) :: _, hx => ⟨fun c => hXY _ (hx.1 c), fun c => ia_sw_mono hXY (hx.2 c)⟩
theorem ia_pre_mono {C C' : Nat → List Value → ia_H → Option Value → ia_H → Prop} {Z Z' : Option Value → ia_H → Prop} {X Y : ia_S → Prop} (hC : ∀ y as h r h', C y as h r h' → C' y as h r h') (hZ : ∀ r h, Z r h → Z' r h) (hXY : ∀ s, X s → Y s) : ∀ {o : ia_O}, ia_pre C Z X o → ia_pre C' Z' Y o
  | none, hx => hx
  | some (.inl _), hx => hXY _ hx
  | some (.inr (.inl (_, _))), hx => by
    obtain ⟨g, h1⟩ := hx
    exact ⟨g, hXY _ h1⟩
  | some (.inr (.inr (.inl (_, _, _)))), hx => by
    obtain ⟨j, g, h1⟩ := hx
    exact ⟨j, g, hXY _ h1⟩
  | some (.inr (.inr (.inr (.inl (_, _, _))))), hx => ⟨fun c => hXY _ (hx.1 c), fun c => hXY _ (hx.2 c)⟩
  | some (.inr (.inr (.inr (.inr (.inl (_, _, _, _, _, _)))))), hx => ia_sw_mono hXY hx
  | some (.inr (.inr (.inr (.inr (.inr (.inl (_, _, _, _, _, _))))))), hx => by
    obtain ⟨q, h1, h2⟩ := hx
    exact ⟨q, hC _ _ _ _ _ h1, hXY _ h2⟩
  | some (.inr (.inr (.inr (.inr (.inr (.inr (.inl (_, _)))))))), hx => hZ _ _ hx
  | some (.inr (.inr (.inr (.inr (.inr (.inr (.inr (_, _, _)))))))), hx => by
    obtain ⟨g, h1⟩ := hx
    exact ⟨g, hZ _ _ h1⟩
/-- a method's table in pieces of sixteen places -/
def ia_piece : List (List ia_E) → Nat → List ia_E
  | [], _ => []
  | c :: _, 0 => c
  | _ :: t, k + 1 => ia_piece t k
def ia_find (pc : Nat) : List ia_E → Option ia_E
  | [] => none
  | e :: t => bif Nat.beq e.1 pc then some e else ia_find pc t
def ia_step (Sh : List ia_C) (K : List (List ia_E)) (s : ia_S) : ia_O := match s with
  | (pc, ls, st, h) => match ia_find pc (ia_piece K (pc / 16)) with
    | some e => ia_f Sh e ls st h
    | none => none
/-- the method comes to its end from s, with Z there -/
def ia_Run (Sh : List ia_C) (K : List (List ia_E)) (C : Nat → List Value → ia_H → Option Value → ia_H → Prop) (Z : Option Value → ia_H → Prop) (s : ia_S) : Prop :=
  ∀ X : ia_S → Prop, (∀ t, ia_pre C Z X (ia_step Sh K t) → X t) → X s
theorem ia_Run_in {Sh : List ia_C} {K : List (List ia_E)} {C : Nat → List Value → ia_H → Option Value → ia_H → Prop} {Z : Option Value → ia_H → Prop} {s : ia_S} (h : ia_pre C Z (ia_Run Sh K C Z) (ia_step Sh K s)) : ia_Run Sh K C Z s :=
  fun X hX => hX s (ia_pre_mono (fun _ _ _ _ _ h => h) (fun _ _ h => h) (fun _ ht => ht X hX) h)
theorem ia_Run_mono {Sh : List ia_C} {K : List (List ia_E)} {C C' : Nat → List Value → ia_H → Option Value → ia_H → Prop} {Z Z' : Option Value → ia_H → Prop} (hC : ∀ y as h r h', C y as h r h' → C' y as h r h') (hZ : ∀ r h, Z r h → Z' r h) {s : ia_S} (h : ia_Run Sh K C Z s) : ia_Run Sh K C' Z' s :=
  h _ (fun _ ht => ia_Run_in (ia_pre_mono hC hZ (fun _ h => h) ht))
/-- n steps, or up to a place where cut says stop -/
def ia_wp (Sh : List ia_C) (K : List (List ia_E)) (C : Nat → List Value → ia_H → Option Value → ia_H → Prop) (Z : Option Value → ia_H → Prop) (X : ia_S → Prop) (cut : Nat → Bool) : Nat → ia_S → Prop
  | 0, s => X s
  | n + 1, s => ia_pre C Z (fun t => bif cut t.1 then X t else ia_wp Sh K C Z X cut n t) (ia_step Sh K s)
theorem ia_wp_run {Sh : List ia_C} {K : List (List ia_E)} {C : Nat → List Value → ia_H → Option Value → ia_H → Prop} {Z : Option Value → ia_H → Prop} (cut : Nat → Bool) : ∀ (n : Nat) {s : ia_S}, ia_wp Sh K C Z (ia_Run Sh K C Z) cut n s → ia_Run Sh K C Z s
  | 0, _, h => h
  | n + 1, s, h => ia_Run_in (ia_pre_mono (fun _ _ _ _ _ h => h) (fun _ _ h => h) (fun t ht => by
      cases hc : cut t.1 with
      | true => rw [hc] at ht; exact ht
      | false => rw [hc] at ht; exact ia_wp_run cut n ht) h)
/-- a walk up to the places of cut; there X, of which only 'the method comes to its end from here' is known to give it -/
theorem ia_walk {Sh : List ia_C} {K : List (List ia_E)} {C : Nat → List Value → ia_H → Option Value → ia_H → Prop} {Z : Option Value → ia_H → Prop} (cut : Nat → Bool) (n : Nat) {s : ia_S} (h : ∀ X : ia_S → Prop, (∀ t, ia_Run Sh K C Z t → X t) → ia_wp Sh K C Z X cut n s) : ia_Run Sh K C Z s :=
  ia_wp_run cut n (h _ (fun _ ht => ht))
/-- a run with Z at its end has one end -/
theorem ia_Run_ex {Sh : List ia_C} {K : List (List ia_E)} {C : Nat → List Value → ia_H → Option Value → ia_H → Prop} {Z : Option Value → ia_H → Prop} {s : ia_S} (h : ia_Run Sh K C Z s) : ∃ r h', Z r h' ∧ ia_Run Sh K C (fun r1 h1 => r1 = r ∧ h1 = h') s := by
  refine h (fun s => ∃ r h', Z r h' ∧ ia_Run Sh K C (fun r1 h1 => r1 = r ∧ h1 = h') s) ?_
  intro t ht
  suffices H : ∃ r h', Z r h' ∧ ia_pre C (fun r1 h1 => r1 = r ∧ h1 = h') (ia_Run Sh K C (fun r1 h1 => r1 = r ∧ h1 = h')) (ia_step Sh K t) by
    obtain ⟨r, h', h1, h2⟩ := H
    exact ⟨r, h', h1, ia_Run_in h2⟩
  revert ht
  generalize ia_step Sh K t = o
  intro ht
  match o, ht with
  | some (.inl _), hx => exact hx
  | some (.inr (.inl (_, _))), hx =>
    obtain ⟨g, r, h', h1, h2⟩ := hx
    exact ⟨r, h', h1, g, h2⟩
  | some (.inr (.inr (.inl (_, _, _)))), hx =>
    obtain ⟨j, g, r, h', h1, h2⟩ := hx
    exact ⟨r, h', h1, j, g, h2⟩
  | some (.inr (.inr (.inr (.inl (c, _, _))))), hx =>
    by_cases hc : c
    · obtain ⟨r, h', h1, h2⟩ := hx.1 hc
      exact ⟨r, h', h1, fun _ => h2, fun q => absurd hc q⟩
    · obtain ⟨r, h', h1, h2⟩ := hx.2 hc
      exact ⟨r, h', h1, fun q => absurd q hc, fun _ => h2⟩
  | some (.inr (.inr (.inr (.inr (.inl (x, ts, d, ls, st, hh)))))), hx =>
    have key : ∀ ts : List (Int × Nat), ia_sw (fun s => ∃ r h', Z r h' ∧ ia_Run Sh K C (fun r1 h1 => r1 = r ∧ h1 = h') s) x d ls st hh ts → ∃ r h', Z r h' ∧ ia_sw (ia_Run Sh K C (fun r1 h1 => r1 = r ∧ h1 = h')) x d ls st hh ts := by
      intro ts
      induction ts with
      | nil => exact fun h => h
      | cons q ts ih =>
        obtain ⟨k, tg⟩ := q
        intro h
        by_cases hc : x = Int32.ofInt k
        · obtain ⟨r, h', h1, h2⟩ := h.1 hc
          exact ⟨r, h', h1, fun _ => h2, fun q => absurd hc q⟩
        · obtain ⟨r, h', h1, h2⟩ := ih (h.2 hc)
          exact ⟨r, h', h1, fun q => absurd q hc, fun _ => h2⟩
    exact key ts hx
  | some (.inr (.inr (.inr (.inr (.inr (.inl (_, _, _, _, _, _))))))), hx =>
    obtain ⟨q, h0, r, h', h1, h2⟩ := hx
    exact ⟨r, h', h1, q, h0, h2⟩
  | some (.inr (.inr (.inr (.inr (.inr (.inr (.inl (_, _)))))))), hx => exact ⟨_, _, hx, rfl, rfl⟩
  | some (.inr (.inr (.inr (.inr (.inr (.inr (.inr (_, _, _)))))))), hx =>
    obtain ⟨g, h1⟩ := hx
    exact ⟨_, _, h1, g, rfl, rfl⟩
/-- the locals with which a method begins -/
def ia_args : List Value → ia_L
  | [] => []
  | .long x :: vs => some (.long x) :: none :: ia_args vs
  | .double x :: vs => some (.double x) :: none :: ia_args vs
  | v :: vs => some v :: ia_args vs
/-- a method: its class, name, bytes, locals, answer, parameters, table; its words' places (code, initialized, instance or static, selects); frames and locals below it -/
abbrev ia_M : Type := String × MethodName × ByteArray × Nat × Option FieldType × Nat × List (List ia_E) × (Nat × Nat × Nat × Nat) × (Nat × Nat)
def ia_meth : List ia_M → Nat → Option ia_M
  | [], _ => none
  | c :: _, 0 => some c
  | _ :: t, k + 1 => ia_meth t k
def ia_enter (n : Nat) (as : List Value) : ia_L := ia_args as ++ List.replicate (n - (ia_args as).length) none
/-- the method y of the list answers so (the least such relation) -/
def ia_Ev (Sh : List ia_C) (MT : List ia_M) (y : Nat) (as : List Value) (h : ia_H) (r : Option Value) (h' : ia_H) : Prop :=
  ∀ C : Nat → List Value → ia_H → Option Value → ia_H → Prop, (∀ y as h r h' (M : ia_M), ia_meth MT y = some M → (ia_args as).length ≤ M.2.2.2.1 → ia_Run Sh M.2.2.2.2.2.2.1 C (fun r1 h1 => r1 = r ∧ h1 = h') (0, ia_enter M.2.2.2.1 as, [], h) → C y as h r h') → C y as h r h'
theorem ia_Ev_in {Sh : List ia_C} {MT : List ia_M} {y : Nat} {as : List Value} {h : ia_H} {r : Option Value} {h' : ia_H} {M : ia_M} (hM : ia_meth MT y = some M) (hn : (ia_args as).length ≤ M.2.2.2.1) (hR : ia_Run Sh M.2.2.2.2.2.2.1 (ia_Ev Sh MT) (fun r1 h1 => r1 = r ∧ h1 = h') (0, ia_enter M.2.2.2.1 as, [], h)) : ia_Ev Sh MT y as h r h' :=
  fun C hC => hC y as h r h' M hM hn (ia_Run_mono (fun _ _ _ _ _ hx => hx C hC) (fun _ _ hx => hx) hR)
/-- the method y answers, with Z of its answer and the heap behind it -/
def ia_V (Sh : List ia_C) (MT : List ia_M) (y : Nat) (as : List Value) (h : ia_H) (Z : Option Value → ia_H → Prop) : Prop := ∃ r h', ia_Ev Sh MT y as h r h' ∧ Z r h'
theorem ia_V_in {Sh : List ia_C} {MT : List ia_M} {y : Nat} {as : List Value} {h : ia_H} {Z : Option Value → ia_H → Prop} {M : ia_M} (K : List (List ia_E)) (ls : ia_L) (hM : ia_meth MT y = some M) (hK : M.2.2.2.2.2.2.1 = K) (hn : (ia_args as).length ≤ M.2.2.2.1) (hl : ia_enter M.2.2.2.1 as = ls) (hR : ia_Run Sh K (ia_Ev Sh MT) Z (0, ls, [], h)) : ia_V Sh MT y as h Z := by
  subst hK; subst hl
  obtain ⟨r, h', h1, h2⟩ := ia_Run_ex hR
  exact ⟨r, h', ia_Ev_in hM hn h2, h1⟩
end
section
/-! THE PURE MACHINE IS THE JVM'S: the cells' picture, and a row for each instruction -/
def ia_v (ad : Nat → Nat) : Value → Value
  | .ref x => .ref (ad x)
  | v => v
def ia_slot (ad : Nat → Nat) (h : ia_H) (x j : Nat) : Nat ⊕ Bool → Value
  | .inl y => .ref (ad y)
  | .inr false => .int (h.1 x j)
  | .inr true => .long (h.2 x j)
def ia_slots (ad : Nat → Nat) (h : ia_H) (x : Nat) : Nat → List (Nat ⊕ Bool) → List Value
  | _, [] => []
  | j, k :: ks => ia_slot ad h x j k :: ia_slots ad h x (j + 1) ks
def ia_cell (ad : Nat → Nat) (ca : Nat → ClassId) (h : ia_H) (x : Nat) : ia_C → va_E
  | .inl (.long, n) => .inl (ca x, n, .inr (.inl (h.2 x)))
  | .inl (_, n) => .inl (ca x, n, .inl (h.1 x))
  | .inr (.inl (ci, ks)) => .inr (ci, ia_slots ad h x 0 ks)
  | .inr (.inr (_, l)) => .inl (ca x, l.length, .inr (.inr (.inr (.inr (fun j => (ia_pick l j).map ad)))))
def ia_w (ad : Nat → Nat) (ca : Nat → ClassId) (h : ia_H) : Nat → List ia_C → va_W
  | _, [] => []
  | x, c :: cs => (ad x, ia_cell ad ca h x c) :: ia_w ad ca h (x + 1) cs
theorem ia_w_get (ad : Nat → Nat) (ca : Nat → ClassId) (h : ia_H) : ∀ (Sh : List ia_C) (x0 x : Nat), (ia_w ad ca h x0 Sh)[x]? = (ia_at? Sh x).map (fun c => (ad (x0 + x), ia_cell ad ca h (x0 + x) c))
  | [], _, _ => by simp [ia_w, ia_at?]
  | c :: cs, x0, 0 => by simp [ia_w, ia_at?]
  | c :: cs, x0, x + 1 => by
    rw [ia_w, List.getElem?_cons_succ, ia_w_get ad ca h cs (x0 + 1) x]
    simp only [ia_at?]
    rw [show x0 + 1 + x = x0 + (x + 1) by omega]
theorem ia_w_at {ad : Nat → Nat} {ca : Nat → ClassId} {h : ia_H} {Sh : List ia_C} {x : Nat} {c : ia_C} (hc : ia_at? Sh x = some c) : (ia_w ad ca h 0 Sh)[x]? = some (ad x, ia_cell ad ca h x c) := by
  rw [ia_w_get, hc, Nat.zero_add]
  rfl
theorem ia_slots_congr {ad : Nat → Nat} {h h' : ia_H} {x : Nat} (h1 : h'.1 x = h.1 x) (h2 : h'.2 x = h.2 x) : ∀ (ks : List (Nat ⊕ Bool)) (j : Nat), ia_slots ad h' x j ks = ia_slots ad h x j ks
  | [], _ => rfl
  | k :: ks, j => by
    rw [ia_slots, ia_slots, ia_slots_congr h1 h2 ks (j + 1)]
    rcases k with y | b
    · rfl
    · cases b
      · simp only [ia_slot, h1]
      · simp only [ia_slot, h2]
theorem ia_cell_congr {ad : Nat → Nat} {ca : Nat → ClassId} {h h' : ia_H} {x : Nat} (h1 : h'.1 x = h.1 x) (h2 : h'.2 x = h.2 x) (c : ia_C) : ia_cell ad ca h' x c = ia_cell ad ca h x c := by
  rcases c with ⟨ty, n⟩ | ⟨ci, ks⟩ | ⟨C, l⟩
  · cases ty <;> simp only [ia_cell, h1, h2]
  · simp only [ia_cell, ia_slots_congr h1 h2]
  · rfl
theorem ia_w_set {ad : Nat → Nat} {ca : Nat → ClassId} {h h' : ia_H} {Sh : List ia_C} {x : Nat} {c : ia_C} (hc : ia_at? Sh x = some c) (h1 : ∀ y, y ≠ x → h'.1 y = h.1 y) (h2 : ∀ y, y ≠ x → h'.2 y = h.2 y) {v : va_E} (hv : v = ia_cell ad ca h' x c) : (ia_w ad ca h 0 Sh).set x (ad x, v) = ia_w ad ca h' 0 Sh := by
  subst hv
  apply List.ext_getElem?
  intro i
  rw [List.getElem?_set, ia_w_get, ia_w_get]
  by_cases hi : x = i
  · subst hi
    have hlt : x < (ia_w ad ca h 0 Sh).length := (List.getElem?_eq_some_iff.mp (ia_w_at (ad := ad) (ca := ca) (h := h) hc)).1
    rw [if_pos rfl, if_pos hlt, hc, Nat.zero_add]
    rfl
  · rw [if_neg hi, Nat.zero_add]
    cases ia_at? Sh i with
    | none => rfl
    | some c2 => simp only [Option.map_some, ia_cell_congr (h1 i (fun q => hi q.symm)) (h2 i (fun q => hi q.symm))]
theorem ia_D_congr {A : Nat → Prop} {ad : Nat → Nat} {ca : Nat → ClassId} {h h' : ia_H} {Sh : List ia_C} (hD : va_D A (ia_w ad ca h 0 Sh)) : va_D A (ia_w ad ca h' 0 Sh) := by
  have key : ∀ (k : Nat) (q : Nat × va_E), (ia_w ad ca h' 0 Sh)[k]? = some q → ∃ q' : Nat × va_E, (ia_w ad ca h 0 Sh)[k]? = some q' ∧ q'.1 = q.1 := by
    intro k q hq
    rw [ia_w_get] at hq
    rw [ia_w_get]
    cases hc : ia_at? Sh k with
    | none => rw [hc] at hq; cases hq
    | some c => rw [hc] at hq; cases hq; exact ⟨_, rfl, rfl⟩
  refine ⟨fun i j p q hi hj hpq => ?_, fun k q hk => ?_⟩
  · obtain ⟨p', a1, a2⟩ := key i p hi
    obtain ⟨q', b1, b2⟩ := key j q hj
    exact hD.1 i j p' q' a1 b1 (by rw [a2, b2]; exact hpq)
  · obtain ⟨q', b1, b2⟩ := key k q hk
    rw [← b2]
    exact hD.2 k q' b1
theorem ia_A_congr {ad : Nat → Nat} {ca : Nat → ClassId} {h h' : ia_H} {Sh : List ia_C} {sz q : Nat} (hA : va_A (ia_w ad ca h 0 Sh) sz q) : va_A (ia_w ad ca h' 0 Sh) sz q := by
  rcases hA with ⟨k, e, hk⟩ | hq
  · rw [ia_w_get] at hk
    cases hc : ia_at? Sh k with
    | none => rw [hc] at hk; cases hk
    | some c =>
      rw [hc] at hk
      cases hk
      exact Or.inl ⟨k, ia_cell ad ca h' (0 + k) c, by rw [ia_w_get, hc]; rfl⟩
  · exact Or.inr hq
theorem ia_slots_get (ad : Nat → Nat) (h : ia_H) (x : Nat) : ∀ (ks : List (Nat ⊕ Bool)) (j b : Nat), (ia_slots ad h x j ks)[b]? = (ia_kind ks b).map (ia_slot ad h x (j + b))
  | [], _, _ => by simp [ia_slots, ia_kind]
  | k :: ks, j, 0 => by simp [ia_slots, ia_kind]
  | k :: ks, j, b + 1 => by
    rw [ia_slots, List.getElem?_cons_succ, ia_slots_get ad h x ks (j + 1) b]
    simp only [ia_kind]
    rw [show j + 1 + b = j + (b + 1) by omega]
theorem ia_slots_setI {ad : Nat → Nat} {h : ia_H} {x b : Nat} {z : Int32} {ks : List (Nat ⊕ Bool)} (hb : ia_kind ks b = some (.inr false)) : (ia_slots ad h x 0 ks).set b (.int z) = ia_slots ad (ia_uI h.1 x b z, h.2) x 0 ks := by
  apply List.ext_getElem?
  intro i
  rw [List.getElem?_set, ia_slots_get, ia_slots_get]
  have hx : (ia_uI h.1 x b z) x = upd (h.1 x) b z := if_pos rfl
  by_cases hi : b = i
  · subst hi
    have hlt : b < (ia_slots ad h x 0 ks).length := by
      have e : (ia_slots ad h x 0 ks)[b]? = some (ia_slot ad h x (0 + b) (.inr false)) := by rw [ia_slots_get, hb]; rfl
      exact (List.getElem?_eq_some_iff.mp e).1
    rw [if_pos rfl, if_pos hlt, hb]
    simp [ia_slot, hx, upd]
  · rw [if_neg hi, Nat.zero_add]
    cases ia_kind ks i with
    | none => rfl
    | some k =>
      rcases k with y | bb
      · rfl
      · cases bb
        · simp only [Option.map_some, ia_slot, hx, upd, if_neg (fun q => hi q.symm : ¬ i = b)]
        · rfl
theorem ia_slots_setL {ad : Nat → Nat} {h : ia_H} {x b : Nat} {z : Int64} {ks : List (Nat ⊕ Bool)} (hb : ia_kind ks b = some (.inr true)) : (ia_slots ad h x 0 ks).set b (.long z) = ia_slots ad (h.1, ia_uL h.2 x b z) x 0 ks := by
  apply List.ext_getElem?
  intro i
  rw [List.getElem?_set, ia_slots_get, ia_slots_get]
  have hx : (ia_uL h.2 x b z) x = vp_updL (h.2 x) b z := if_pos rfl
  by_cases hi : b = i
  · subst hi
    have hlt : b < (ia_slots ad h x 0 ks).length := by
      have e : (ia_slots ad h x 0 ks)[b]? = some (ia_slot ad h x (0 + b) (.inr true)) := by rw [ia_slots_get, hb]; rfl
      exact (List.getElem?_eq_some_iff.mp e).1
    rw [if_pos rfl, if_pos hlt, hb]
    simp [ia_slot, hx, vp_updL]
  · rw [if_neg hi, Nat.zero_add]
    cases ia_kind ks i with
    | none => rfl
    | some k =>
      rcases k with y | bb
      · rfl
      · cases bb
        · rfl
        · simp only [Option.map_some, ia_slot, hx, vp_updL, if_neg (fun q => hi q.symm : ¬ i = b)]
theorem ia_uI_ne {f : Nat → Nat → Int32} {x i y : Nat} {z : Int32} (h : y ≠ x) : ia_uI f x i z y = f y := if_neg h
theorem ia_uL_ne {f : Nat → Nat → Int64} {x i y : Nat} {z : Int64} (h : y ≠ x) : ia_uL f x i z y = f y := if_neg h
/-! locals -/
theorem ia_get_none : ∀ (n i : Nat), ia_get (List.replicate n none) i = none
  | 0, _ => rfl
  | _ + 1, 0 => rfl
  | n + 1, i + 1 => ia_get_none n i
theorem ia_get_set : ∀ (ls : ia_L) (i j : Nat) (v : Option Value), ia_get (ia_set ls i v) j = if j = i ∧ i < ls.length then v else ia_get ls j
  | [], i, j, v => by simp [ia_set, ia_get]
  | w :: t, 0, 0, v => by simp [ia_set, ia_get]
  | w :: t, 0, j + 1, v => by simp [ia_set, ia_get]
  | w :: t, i + 1, 0, v => by simp [ia_set, ia_get]
  | w :: t, i + 1, j + 1, v => by
    rw [ia_set, ia_get, ia_get_set t i j v, ia_get]
    simp
theorem ia_set_len : ∀ (ls : ia_L) (i : Nat) (v : Option Value), (ia_set ls i v).length = ls.length
  | [], _, _ => rfl
  | _ :: _, 0, _ => rfl
  | _ :: t, i + 1, v => by simp [ia_set, ia_set_len t i v]
theorem ia_clr_len (ls : ia_L) (i : Nat) : (ia_clr ls i).length = ls.length := by
  cases i with
  | zero => rfl
  | succ k => simp only [ia_clr]; split <;> simp [ia_set_len]
def ia_R (ad : Nat → Nat) (nL : Nat) (lc : Array Slot) (ls : ia_L) : Prop := ls.length = nL ∧ lc.size = nL ∧ lv_wf lc ∧ ∀ (i : Nat) (v : Value), ia_get ls i = some v → lc[i]? = some (.val (ia_v ad v))
theorem ia_get_lt : ∀ {ls : ia_L} {i : Nat} {v : Value}, ia_get ls i = some v → i < ls.length
  | [], _, _, h => by cases h
  | _ :: _, 0, _, _ => by simp
  | _ :: t, i + 1, v, h => by
    have := ia_get_lt (ls := t) (i := i) (v := v) h
    simp; omega
theorem ia_cat (ad : Nat → Nat) (v : Value) : (ia_v ad v).category = v.category := by cases v <;> rfl
/-- the listed values, as the kit's rows want them -/
def ia_al (ad : Nat → Nat) (ls : ia_L) : List (Nat × Value) := (List.range ls.length).filterMap (fun i => (ia_get ls i).map (fun v => (i, ia_v ad v)))
theorem ia_al_mem {ad : Nat → Nat} {ls : ia_L} {q : Nat × Value} : q ∈ ia_al ad ls ↔ ∃ v, ia_get ls q.1 = some v ∧ q.2 = ia_v ad v := by
  unfold ia_al
  rw [List.mem_filterMap]
  constructor
  · rintro ⟨i, -, hi⟩
    cases hg : ia_get ls i with
    | none => rw [hg] at hi; cases hi
    | some v => rw [hg] at hi; cases hi; exact ⟨v, hg, rfl⟩
  · rintro ⟨v, hg, hv⟩
    refine ⟨q.1, List.mem_range.mpr (ia_get_lt hg), ?_⟩
    rw [hg]
    show some (q.1, ia_v ad v) = some q
    rw [← hv]
theorem ia_R_has {ad : Nat → Nat} {nL : Nat} {lc : Array Slot} {ls : ia_L} (h : ia_R ad nL lc ls) : lv_has lc nL (ia_al ad ls) := by
  refine ⟨h.2.1, h.2.2.1, fun q hq => ?_⟩
  obtain ⟨v, hg, hv⟩ := ia_al_mem.mp hq
  rw [hv]
  exact h.2.2.2 q.1 v hg
theorem ia_R_of {ad : Nat → Nat} {nL : Nat} {lc : Array Slot} {ls : ia_L} {lv : List (Nat × Value)} (hl : ls.length = nL) (h : lv_has lc nL lv) (hs : ∀ q ∈ ia_al ad ls, q ∈ lv) : ia_R ad nL lc ls := by
  refine ⟨hl, h.1, h.2.1, fun i v hg => ?_⟩
  exact h.2.2 (i, ia_v ad v) (hs _ (ia_al_mem.mpr ⟨v, hg, rfl⟩))
theorem ia_clr_get {ls : ia_L} {i j : Nat} {v : Value} (h : ia_get (ia_clr ls i) j = some v) : ia_get ls j = some v ∧ ¬ (j + 1 = i ∧ v.category = 2) := by
  cases i with
  | zero => exact ⟨h, fun q => by omega⟩
  | succ k =>
    simp only [ia_clr] at h
    split at h
    · rename_i x hx
      rw [ia_get_set] at h
      by_cases hj : j = k ∧ k < ls.length
      · rw [if_pos hj] at h; cases h
      · rw [if_neg hj] at h
        refine ⟨h, fun q => hj ⟨by omega, ia_get_lt hx⟩⟩
    · rename_i x hx
      rw [ia_get_set] at h
      by_cases hj : j = k ∧ k < ls.length
      · rw [if_pos hj] at h; cases h
      · rw [if_neg hj] at h
        refine ⟨h, fun q => hj ⟨by omega, ia_get_lt hx⟩⟩
    · rename_i hn1 hn2
      refine ⟨h, fun q => ?_⟩
      have hjk : j = k := by omega
      subst hjk
      cases v with
      | long x => exact hn1 x h
      | double x => exact hn2 x h
      | _ => simp [Value.category] at q
theorem ia_R_st1 {ad : Nat → Nat} {nL : Nat} {lc lc' : Array Slot} {ls : ia_L} {i : Nat} {v : Value} (h : ia_R ad nL lc ls) (h' : lv_has lc' nL ((i, ia_v ad v) :: (ia_al ad ls).filter (fun q => !(q.1 == i) && !(q.1 + 1 == i && q.2.category == 2)))) : ia_R ad nL lc' (ia_st1 ls i v) := by
  refine ia_R_of (by simp [ia_st1, ia_set_len, ia_clr_len, h.1]) h' (fun q hq => ?_)
  obtain ⟨u, hg, hu⟩ := ia_al_mem.mp hq
  simp only [ia_st1] at hg
  rw [ia_get_set] at hg
  by_cases hj : q.1 = i ∧ i < (ia_clr ls i).length
  · rw [if_pos hj] at hg
    cases hg
    exact List.mem_cons.mpr (Or.inl (Prod.ext hj.1 hu))
  · rw [if_neg hj] at hg
    obtain ⟨g1, g2⟩ := ia_clr_get hg
    have hne : q.1 ≠ i := fun q0 => hj ⟨q0, by rw [ia_clr_len, ← q0]; exact ia_get_lt g1⟩
    refine List.mem_cons.mpr (Or.inr (List.mem_filter.mpr ⟨ia_al_mem.mpr ⟨u, g1, hu⟩, ?_⟩))
    have hc : q.2.category = u.category := by rw [hu, ia_cat]
    simp only [Bool.and_eq_true, Bool.not_eq_true', beq_eq_false_iff_ne, Bool.and_eq_false_iff]
    refine ⟨hne, ?_⟩
    by_cases h1 : q.1 + 1 = i
    · exact Or.inr (fun h2 => g2 ⟨h1, by rw [← hc]; exact h2⟩)
    · exact Or.inl h1
theorem ia_R_st2 {ad : Nat → Nat} {nL : Nat} {lc lc' : Array Slot} {ls : ia_L} {i : Nat} {v : Value} (h : ia_R ad nL lc ls) (hi : i + 1 < nL) (h' : lv_has lc' nL ((i, ia_v ad v) :: (ia_al ad ls).filter (fun q => !(q.1 == i) && (!(q.1 == i + 1) && !(q.1 + 1 == i && q.2.category == 2))))) : ia_R ad nL lc' (ia_st2 ls i v) := by
  refine ia_R_of (by simp [ia_st2, ia_set_len, ia_clr_len, h.1]) h' (fun q hq => ?_)
  obtain ⟨u, hg, hu⟩ := ia_al_mem.mp hq
  simp only [ia_st2] at hg
  rw [ia_get_set] at hg
  by_cases hj2 : q.1 = i + 1 ∧ i + 1 < (ia_set (ia_clr ls i) i (some v)).length
  · rw [if_pos hj2] at hg; cases hg
  rw [if_neg hj2, ia_get_set] at hg
  have hne2 : q.1 ≠ i + 1 := fun q0 => hj2 ⟨q0, by rw [ia_set_len, ia_clr_len, h.1]; exact hi⟩
  by_cases hj : q.1 = i ∧ i < (ia_clr ls i).length
  · rw [if_pos hj] at hg
    cases hg
    exact List.mem_cons.mpr (Or.inl (Prod.ext hj.1 hu))
  · rw [if_neg hj] at hg
    obtain ⟨g1, g2⟩ := ia_clr_get hg
    have hne : q.1 ≠ i := fun q0 => hj ⟨q0, by rw [ia_clr_len, ← q0]; exact ia_get_lt g1⟩
    refine List.mem_cons.mpr (Or.inr (List.mem_filter.mpr ⟨ia_al_mem.mpr ⟨u, g1, hu⟩, ?_⟩))
    have hc : q.2.category = u.category := by rw [hu, ia_cat]
    simp only [Bool.and_eq_true, Bool.not_eq_true', beq_eq_false_iff_ne, Bool.and_eq_false_iff]
    refine ⟨hne, hne2, ?_⟩
    by_cases h1 : q.1 + 1 = i
    · exact Or.inr (fun h2 => g2 ⟨h1, by rw [← hc]; exact h2⟩)
    · exact Or.inl h1
section IA
variable {p : Program} {l : Launch} {e : Env} {R : Room} {s : State} {m : MethodId} {args : Array Value} {below : List Frame} {meth : Method} {c : Code} {Q : State → Prop} {cells slots : Nat}
variable {cc : ByteArray} {D : va_G} {cl : List vw_C} {A : Nat → Prop} {tys : List (ClassId × FieldType)} {H0 : Heap} {Sh : List ia_C} {ad : Nat → Nat} {ca : Nat → ClassId} {nL : Nat}
variable {C : Nat → List Value → ia_H → Option Value → ia_H → Prop} {Z : Option Value → ia_H → Prop} {pc a b w : Nat} {v : Value} {ts : List (Int × Nat)} {ls : ia_L} {st : List Value} {hh : ia_H}
/-- the JVM's frame stands as the pure one: wherever that is so, it comes to Q -/
def ia_X (p : Program) (l : Launch) (e : Env) (R : Room) (s : State) (m : MethodId) (args : Array Value) (below : List Frame) (meth : Method) (c : Code) (Q : State → Prop) (cells slots : Nat) (D : va_G) (cl : List vw_C) (A : Nat → Prop) (H0 : Heap) (Sh : List ia_C) (ad : Nat → Nat) (ca : Nat → ClassId) (nL : Nat) (t : ia_S) : Prop :=
  ∀ (H : Heap) (locs : List Loc) (lc : Array Slot), va_P D cl (ia_w ad ca t.2.2.2 0 Sh) H → va_D A (ia_w ad ca t.2.2.2 0 Sh) → va_S A H0 H locs → ia_R ad nL lc t.2.1 → W p l e R s m args below meth c H locs cells slots Q (F0 m t.1 lc (t.2.2.1.map (ia_v ad)))
theorem ia_s_aload_n (hx : p.tables.exec = Jvm.exec) (hb : c.code = cc) {k : Fin 4} (hdg : decode cc pc = .ok (.aload_n k, 1)) (h : ia_pre C Z (ia_X p l e R s m args below meth c Q cells slots D cl A H0 Sh ad ca nL) (ia_f Sh (pc, .aload_n k, 1, a, b, w, v, ts) ls st hh)) : ia_X p l e R s m args below meth c Q cells slots D cl A H0 Sh ad ca nL (pc, ls, st, hh) := by
  simp only [ia_f] at h
  split at h
  · rename_i x hg
    intro H locs lc hP hD hS hR
    exact lv_aload_n hx hb hdg rfl (hR.2.2.2 _ _ hg) (h H locs lc hP hD hS hR)
  · exact h.elim
theorem ia_s_aload (hx : p.tables.exec = Jvm.exec) (hb : c.code = cc) {k : Nat} (hdg : decode cc pc = .ok (.aload k, 2)) (h : ia_pre C Z (ia_X p l e R s m args below meth c Q cells slots D cl A H0 Sh ad ca nL) (ia_f Sh (pc, .aload k, 2, a, b, w, v, ts) ls st hh)) : ia_X p l e R s m args below meth c Q cells slots D cl A H0 Sh ad ca nL (pc, ls, st, hh) := by
  simp only [ia_f] at h
  split at h
  · rename_i x hg
    intro H locs lc hP hD hS hR
    exact lv_aload hx hb hdg (hR.2.2.2 _ _ hg) (h H locs lc hP hD hS hR)
  · exact h.elim
theorem ia_s_iload_n (hx : p.tables.exec = Jvm.exec) (hb : c.code = cc) {k : Fin 4} (hdg : decode cc pc = .ok (.iload_n k, 1)) (h : ia_pre C Z (ia_X p l e R s m args below meth c Q cells slots D cl A H0 Sh ad ca nL) (ia_f Sh (pc, .iload_n k, 1, a, b, w, v, ts) ls st hh)) : ia_X p l e R s m args below meth c Q cells slots D cl A H0 Sh ad ca nL (pc, ls, st, hh) := by
  simp only [ia_f] at h
  split at h
  · rename_i x hg
    intro H locs lc hP hD hS hR
    exact lv_iload_n hx hb hdg rfl (hR.2.2.2 _ _ hg) (h H locs lc hP hD hS hR)
  · exact h.elim
theorem ia_s_iload (hx : p.tables.exec = Jvm.exec) (hb : c.code = cc) {k : Nat} (hdg : decode cc pc = .ok (.iload k, 2)) (h : ia_pre C Z (ia_X p l e R s m args below meth c Q cells slots D cl A H0 Sh ad ca nL) (ia_f Sh (pc, .iload k, 2, a, b, w, v, ts) ls st hh)) : ia_X p l e R s m args below meth c Q cells slots D cl A H0 Sh ad ca nL (pc, ls, st, hh) := by
  simp only [ia_f] at h
  split at h
  · rename_i x hg
    intro H locs lc hP hD hS hR
    exact lv_iload hx hb hdg (hR.2.2.2 _ _ hg) (h H locs lc hP hD hS hR)
  · exact h.elim
theorem ia_s_lload_n (hx : p.tables.exec = Jvm.exec) (hb : c.code = cc) {k : Fin 4} (hdg : decode cc pc = .ok (.lload_n k, 1)) (h : ia_pre C Z (ia_X p l e R s m args below meth c Q cells slots D cl A H0 Sh ad ca nL) (ia_f Sh (pc, .lload_n k, 1, a, b, w, v, ts) ls st hh)) : ia_X p l e R s m args below meth c Q cells slots D cl A H0 Sh ad ca nL (pc, ls, st, hh) := by
  simp only [ia_f] at h
  split at h
  · rename_i x hg
    intro H locs lc hP hD hS hR
    exact lv_lload_n hx hb hdg rfl (hR.2.2.2 _ _ hg) (h H locs lc hP hD hS hR)
  · exact h.elim
theorem ia_s_lload (hx : p.tables.exec = Jvm.exec) (hb : c.code = cc) {k : Nat} (hdg : decode cc pc = .ok (.lload k, 2)) (h : ia_pre C Z (ia_X p l e R s m args below meth c Q cells slots D cl A H0 Sh ad ca nL) (ia_f Sh (pc, .lload k, 2, a, b, w, v, ts) ls st hh)) : ia_X p l e R s m args below meth c Q cells slots D cl A H0 Sh ad ca nL (pc, ls, st, hh) := by
  simp only [ia_f] at h
  split at h
  · rename_i x hg
    intro H locs lc hP hD hS hR
    exact lv_lload hx hb hdg (hR.2.2.2 _ _ hg) (h H locs lc hP hD hS hR)
  · exact h.elim
theorem ia_s_dload_n (hx : p.tables.exec = Jvm.exec) (hb : c.code = cc) {k : Fin 4} (hdg : decode cc pc = .ok (.dload_n k, 1)) (h : ia_pre C Z (ia_X p l e R s m args below meth c Q cells slots D cl A H0 Sh ad ca nL) (ia_f Sh (pc, .dload_n k, 1, a, b, w, v, ts) ls st hh)) : ia_X p l e R s m args below meth c Q cells slots D cl A H0 Sh ad ca nL (pc, ls, st, hh) := by
  simp only [ia_f] at h
  split at h
  · rename_i x hg
    intro H locs lc hP hD hS hR
    exact lv_dload_n hx hb hdg rfl (hR.2.2.2 _ _ hg) (h H locs lc hP hD hS hR)
  · exact h.elim
theorem ia_s_astore_n (hx : p.tables.exec = Jvm.exec) (hb : c.code = cc) {k : Fin 4} (hk : k.val < nL) (hdg : decode cc pc = .ok (.astore_n k, 1)) (h : ia_pre C Z (ia_X p l e R s m args below meth c Q cells slots D cl A H0 Sh ad ca nL) (ia_f Sh (pc, .astore_n k, 1, a, b, w, v, ts) ls st hh)) : ia_X p l e R s m args below meth c Q cells slots D cl A H0 Sh ad ca nL (pc, ls, st, hh) := by
  simp only [ia_f, ia_st1K_eq, ia_st2K_eq] at h
  split at h <;> first | exact h.elim | skip
  all_goals (
    intro H locs lc hP hD hS hR
    exact lv_astore_n hx hb hdg rfl (ia_R_has hR) hk rfl (fun lc' hl => h H locs lc' hP hD hS (ia_R_st1 hR hl)))
theorem ia_s_astore (hx : p.tables.exec = Jvm.exec) (hb : c.code = cc) {k : Nat} (hk : k < nL) (hdg : decode cc pc = .ok (.astore k, 2)) (h : ia_pre C Z (ia_X p l e R s m args below meth c Q cells slots D cl A H0 Sh ad ca nL) (ia_f Sh (pc, .astore k, 2, a, b, w, v, ts) ls st hh)) : ia_X p l e R s m args below meth c Q cells slots D cl A H0 Sh ad ca nL (pc, ls, st, hh) := by
  simp only [ia_f, ia_st1K_eq, ia_st2K_eq] at h
  split at h <;> first | exact h.elim | skip
  all_goals (
    intro H locs lc hP hD hS hR
    exact lv_astore hx hb hdg (ia_R_has hR) hk rfl (fun lc' hl => h H locs lc' hP hD hS (ia_R_st1 hR hl)))
theorem ia_s_istore_n (hx : p.tables.exec = Jvm.exec) (hb : c.code = cc) {k : Fin 4} (hk : k.val < nL) (hdg : decode cc pc = .ok (.istore_n k, 1)) (h : ia_pre C Z (ia_X p l e R s m args below meth c Q cells slots D cl A H0 Sh ad ca nL) (ia_f Sh (pc, .istore_n k, 1, a, b, w, v, ts) ls st hh)) : ia_X p l e R s m args below meth c Q cells slots D cl A H0 Sh ad ca nL (pc, ls, st, hh) := by
  simp only [ia_f, ia_st1K_eq, ia_st2K_eq] at h
  split at h <;> first | exact h.elim | skip
  all_goals (
    intro H locs lc hP hD hS hR
    exact lv_istore_n hx hb hdg rfl (ia_R_has hR) hk rfl (fun lc' hl => h H locs lc' hP hD hS (ia_R_st1 hR hl)))
theorem ia_s_istore (hx : p.tables.exec = Jvm.exec) (hb : c.code = cc) {k : Nat} (hk : k < nL) (hdg : decode cc pc = .ok (.istore k, 2)) (h : ia_pre C Z (ia_X p l e R s m args below meth c Q cells slots D cl A H0 Sh ad ca nL) (ia_f Sh (pc, .istore k, 2, a, b, w, v, ts) ls st hh)) : ia_X p l e R s m args below meth c Q cells slots D cl A H0 Sh ad ca nL (pc, ls, st, hh) := by
  simp only [ia_f, ia_st1K_eq, ia_st2K_eq] at h
  split at h <;> first | exact h.elim | skip
  all_goals (
    intro H locs lc hP hD hS hR
    exact lv_istore hx hb hdg (ia_R_has hR) hk rfl (fun lc' hl => h H locs lc' hP hD hS (ia_R_st1 hR hl)))
theorem ia_s_lstore_n (hx : p.tables.exec = Jvm.exec) (hb : c.code = cc) {k : Fin 4} (hk : k.val + 1 < nL) (hdg : decode cc pc = .ok (.lstore_n k, 1)) (h : ia_pre C Z (ia_X p l e R s m args below meth c Q cells slots D cl A H0 Sh ad ca nL) (ia_f Sh (pc, .lstore_n k, 1, a, b, w, v, ts) ls st hh)) : ia_X p l e R s m args below meth c Q cells slots D cl A H0 Sh ad ca nL (pc, ls, st, hh) := by
  simp only [ia_f, ia_st1K_eq, ia_st2K_eq] at h
  split at h <;> first | exact h.elim | skip
  all_goals (
    intro H locs lc hP hD hS hR
    exact lv_lstore_n hx hb hdg rfl (ia_R_has hR) hk rfl (fun lc' hl => h H locs lc' hP hD hS (ia_R_st2 hR hk hl)))
theorem ia_s_lstore (hx : p.tables.exec = Jvm.exec) (hb : c.code = cc) {k : Nat} (hk : k + 1 < nL) (hdg : decode cc pc = .ok (.lstore k, 2)) (h : ia_pre C Z (ia_X p l e R s m args below meth c Q cells slots D cl A H0 Sh ad ca nL) (ia_f Sh (pc, .lstore k, 2, a, b, w, v, ts) ls st hh)) : ia_X p l e R s m args below meth c Q cells slots D cl A H0 Sh ad ca nL (pc, ls, st, hh) := by
  simp only [ia_f, ia_st1K_eq, ia_st2K_eq] at h
  split at h <;> first | exact h.elim | skip
  all_goals (
    intro H locs lc hP hD hS hR
    exact lv_lstore hx hb hdg (ia_R_has hR) hk rfl (fun lc' hl => h H locs lc' hP hD hS (ia_R_st2 hR hk hl)))
theorem ia_s_dstore_n (hx : p.tables.exec = Jvm.exec) (hb : c.code = cc) {k : Fin 4} (hk : k.val + 1 < nL) (hdg : decode cc pc = .ok (.dstore_n k, 1)) (h : ia_pre C Z (ia_X p l e R s m args below meth c Q cells slots D cl A H0 Sh ad ca nL) (ia_f Sh (pc, .dstore_n k, 1, a, b, w, v, ts) ls st hh)) : ia_X p l e R s m args below meth c Q cells slots D cl A H0 Sh ad ca nL (pc, ls, st, hh) := by
  simp only [ia_f, ia_st1K_eq, ia_st2K_eq] at h
  split at h <;> first | exact h.elim | skip
  all_goals (
    intro H locs lc hP hD hS hR
    exact lv_dstore_n hx hb hdg rfl (ia_R_has hR) hk rfl (fun lc' hl => h H locs lc' hP hD hS (ia_R_st2 hR hk hl)))
theorem ia_s_iinc (hx : p.tables.exec = Jvm.exec) (hb : c.code = cc) {k : Nat} {n : Int} (hk : k < nL) (hdg : decode cc pc = .ok (.iinc k n, 3)) (h : ia_pre C Z (ia_X p l e R s m args below meth c Q cells slots D cl A H0 Sh ad ca nL) (ia_f Sh (pc, .iinc k n, 3, a, b, w, .int (Int32.ofInt n), ts) ls st hh)) : ia_X p l e R s m args below meth c Q cells slots D cl A H0 Sh ad ca nL (pc, ls, st, hh) := by
  simp only [ia_f, ia_st1K_eq] at h
  split at h
  · rename_i x hg
    intro H locs lc hP hD hS hR
    obtain ⟨j, hj⟩ := List.mem_iff_getElem?.mp (ia_al_mem (ad := ad) (q := (k, .int x)).mpr ⟨.int x, hg, rfl⟩)
    exact lv_iinc hx hb hdg (ia_R_has hR) hj rfl hk rfl (fun lc' hl => h H locs lc' hP hD hS (ia_R_st1 (v := .int (x + Int32.ofInt n)) hR hl))
  · exact h.elim
theorem ia_s_iconst (hx : p.tables.exec = Jvm.exec) (hb : c.code = cc) {n : Int} (hdg : decode cc pc = .ok (.iconst n, 1)) (h : ia_pre C Z (ia_X p l e R s m args below meth c Q cells slots D cl A H0 Sh ad ca nL) (ia_f Sh (pc, .iconst n, 1, a, b, w, .int (Int32.ofInt n), ts) ls st hh)) : ia_X p l e R s m args below meth c Q cells slots D cl A H0 Sh ad ca nL (pc, ls, st, hh) := by
  intro H locs lc hP hD hS hR
  exact lv_iconst hx hb hdg rfl (h H locs lc hP hD hS hR)
theorem ia_s_bipush (hx : p.tables.exec = Jvm.exec) (hb : c.code = cc) {n : Int} (hdg : decode cc pc = .ok (.bipush n, 2)) (h : ia_pre C Z (ia_X p l e R s m args below meth c Q cells slots D cl A H0 Sh ad ca nL) (ia_f Sh (pc, .bipush n, 2, a, b, w, .int (Int8.ofInt n).toInt32, ts) ls st hh)) : ia_X p l e R s m args below meth c Q cells slots D cl A H0 Sh ad ca nL (pc, ls, st, hh) := by
  intro H locs lc hP hD hS hR
  exact lv_bipush hx hb hdg rfl (h H locs lc hP hD hS hR)
theorem ia_s_sipush (hx : p.tables.exec = Jvm.exec) (hb : c.code = cc) {n : Int} (hdg : decode cc pc = .ok (.sipush n, 3)) (h : ia_pre C Z (ia_X p l e R s m args below meth c Q cells slots D cl A H0 Sh ad ca nL) (ia_f Sh (pc, .sipush n, 3, a, b, w, .int (Int16.ofInt n).toInt32, ts) ls st hh)) : ia_X p l e R s m args below meth c Q cells slots D cl A H0 Sh ad ca nL (pc, ls, st, hh) := by
  intro H locs lc hP hD hS hR
  exact lv_sipush hx hb hdg rfl (h H locs lc hP hD hS hR)
theorem ia_s_lconst (hx : p.tables.exec = Jvm.exec) (hb : c.code = cc) {n : Fin 2} (hdg : decode cc pc = .ok (.lconst n, 1)) (h : ia_pre C Z (ia_X p l e R s m args below meth c Q cells slots D cl A H0 Sh ad ca nL) (ia_f Sh (pc, .lconst n, 1, a, b, w, .long (Int64.ofNat n.val), ts) ls st hh)) : ia_X p l e R s m args below meth c Q cells slots D cl A H0 Sh ad ca nL (pc, ls, st, hh) := by
  intro H locs lc hP hD hS hR
  exact lv_lconst hx hb hdg rfl (h H locs lc hP hD hS hR)
theorem ia_s_dconst (hx : p.tables.exec = Jvm.exec) (hb : c.code = cc) (hdg : decode cc pc = .ok (.dconst 0, 1)) (h : ia_pre C Z (ia_X p l e R s m args below meth c Q cells slots D cl A H0 Sh ad ca nL) (ia_f Sh (pc, .dconst 0, 1, a, b, w, v, ts) ls st hh)) : ia_X p l e R s m args below meth c Q cells slots D cl A H0 Sh ad ca nL (pc, ls, st, hh) := by
  intro H locs lc hP hD hS hR
  exact lv_dconst0 hx hb hdg (h H locs lc hP hD hS hR)
theorem ia_s_ldc2l (hx : p.tables.exec = Jvm.exec) (hb : c.code = cc) {own : String} {i : Nat} {x : Int64} (hown : s.vm.findClass own = some m.cls) (hw : (Jvm.Cond.constantLong own i x).before args s = true) (hdg : decode cc pc = .ok (.ldc2_w i, 3)) (h : ia_pre C Z (ia_X p l e R s m args below meth c Q cells slots D cl A H0 Sh ad ca nL) (ia_f Sh (pc, .ldc2_w i, 3, a, b, w, .long x, ts) ls st hh)) : ia_X p l e R s m args below meth c Q cells slots D cl A H0 Sh ad ca nL (pc, ls, st, hh) := by
  intro H locs lc hP hD hS hR
  exact lv_ldc2 hx hb hown hw hdg (h H locs lc hP hD hS hR)
theorem ia_s_ldc2d (hx : p.tables.exec = Jvm.exec) (hb : c.code = cc) {own : String} {i : Nat} {x : UInt64} (hown : s.vm.findClass own = some m.cls) (hw : (Jvm.Cond.constantDouble own i x).before args s = true) (hdg : decode cc pc = .ok (.ldc2_w i, 3)) (h : ia_pre C Z (ia_X p l e R s m args below meth c Q cells slots D cl A H0 Sh ad ca nL) (ia_f Sh (pc, .ldc2_w i, 3, a, b, w, .double x, ts) ls st hh)) : ia_X p l e R s m args below meth c Q cells slots D cl A H0 Sh ad ca nL (pc, ls, st, hh) := by
  intro H locs lc hP hD hS hR
  exact lv_ldc2d hx hb hown hw hdg (h H locs lc hP hD hS hR)
theorem ia_s_iadd (hx : p.tables.exec = Jvm.exec) (hb : c.code = cc) (hdg : decode cc pc = .ok (.iadd, 1)) (h : ia_pre C Z (ia_X p l e R s m args below meth c Q cells slots D cl A H0 Sh ad ca nL) (ia_f Sh (pc, .iadd, 1, a, b, w, v, ts) ls st hh)) : ia_X p l e R s m args below meth c Q cells slots D cl A H0 Sh ad ca nL (pc, ls, st, hh) := by
  simp only [ia_f] at h
  split at h <;> first | exact h.elim | skip
  all_goals (
    intro H locs lc hP hD hS hR
    exact lv_iadd hx hb hdg (h H locs lc hP hD hS hR))
theorem ia_s_isub (hx : p.tables.exec = Jvm.exec) (hb : c.code = cc) (hdg : decode cc pc = .ok (.isub, 1)) (h : ia_pre C Z (ia_X p l e R s m args below meth c Q cells slots D cl A H0 Sh ad ca nL) (ia_f Sh (pc, .isub, 1, a, b, w, v, ts) ls st hh)) : ia_X p l e R s m args below meth c Q cells slots D cl A H0 Sh ad ca nL (pc, ls, st, hh) := by
  simp only [ia_f] at h
  split at h <;> first | exact h.elim | skip
  all_goals (
    intro H locs lc hP hD hS hR
    exact lv_isub hx hb hdg (h H locs lc hP hD hS hR))
theorem ia_s_imul (hx : p.tables.exec = Jvm.exec) (hb : c.code = cc) (hdg : decode cc pc = .ok (.imul, 1)) (h : ia_pre C Z (ia_X p l e R s m args below meth c Q cells slots D cl A H0 Sh ad ca nL) (ia_f Sh (pc, .imul, 1, a, b, w, v, ts) ls st hh)) : ia_X p l e R s m args below meth c Q cells slots D cl A H0 Sh ad ca nL (pc, ls, st, hh) := by
  simp only [ia_f] at h
  split at h <;> first | exact h.elim | skip
  all_goals (
    intro H locs lc hP hD hS hR
    exact lv_imul hx hb hdg (h H locs lc hP hD hS hR))
theorem ia_s_iand (hx : p.tables.exec = Jvm.exec) (hb : c.code = cc) (hdg : decode cc pc = .ok (.iand, 1)) (h : ia_pre C Z (ia_X p l e R s m args below meth c Q cells slots D cl A H0 Sh ad ca nL) (ia_f Sh (pc, .iand, 1, a, b, w, v, ts) ls st hh)) : ia_X p l e R s m args below meth c Q cells slots D cl A H0 Sh ad ca nL (pc, ls, st, hh) := by
  simp only [ia_f] at h
  split at h <;> first | exact h.elim | skip
  all_goals (
    intro H locs lc hP hD hS hR
    exact lv_iand hx hb hdg (h H locs lc hP hD hS hR))
theorem ia_s_ixor (hx : p.tables.exec = Jvm.exec) (hb : c.code = cc) (hdg : decode cc pc = .ok (.ixor, 1)) (h : ia_pre C Z (ia_X p l e R s m args below meth c Q cells slots D cl A H0 Sh ad ca nL) (ia_f Sh (pc, .ixor, 1, a, b, w, v, ts) ls st hh)) : ia_X p l e R s m args below meth c Q cells slots D cl A H0 Sh ad ca nL (pc, ls, st, hh) := by
  simp only [ia_f] at h
  split at h <;> first | exact h.elim | skip
  all_goals (
    intro H locs lc hP hD hS hR
    exact lv_ixor hx hb hdg (h H locs lc hP hD hS hR))
theorem ia_s_ishr (hx : p.tables.exec = Jvm.exec) (hb : c.code = cc) (hdg : decode cc pc = .ok (.ishr, 1)) (h : ia_pre C Z (ia_X p l e R s m args below meth c Q cells slots D cl A H0 Sh ad ca nL) (ia_f Sh (pc, .ishr, 1, a, b, w, v, ts) ls st hh)) : ia_X p l e R s m args below meth c Q cells slots D cl A H0 Sh ad ca nL (pc, ls, st, hh) := by
  simp only [ia_f] at h
  split at h <;> first | exact h.elim | skip
  all_goals (
    intro H locs lc hP hD hS hR
    exact lv_ishr hx hb hdg (h H locs lc hP hD hS hR))
theorem ia_s_ladd (hx : p.tables.exec = Jvm.exec) (hb : c.code = cc) (hdg : decode cc pc = .ok (.ladd, 1)) (h : ia_pre C Z (ia_X p l e R s m args below meth c Q cells slots D cl A H0 Sh ad ca nL) (ia_f Sh (pc, .ladd, 1, a, b, w, v, ts) ls st hh)) : ia_X p l e R s m args below meth c Q cells slots D cl A H0 Sh ad ca nL (pc, ls, st, hh) := by
  simp only [ia_f] at h
  split at h <;> first | exact h.elim | skip
  all_goals (
    intro H locs lc hP hD hS hR
    exact lv_ladd hx hb hdg (h H locs lc hP hD hS hR))
theorem ia_s_lsub (hx : p.tables.exec = Jvm.exec) (hb : c.code = cc) (hdg : decode cc pc = .ok (.lsub, 1)) (h : ia_pre C Z (ia_X p l e R s m args below meth c Q cells slots D cl A H0 Sh ad ca nL) (ia_f Sh (pc, .lsub, 1, a, b, w, v, ts) ls st hh)) : ia_X p l e R s m args below meth c Q cells slots D cl A H0 Sh ad ca nL (pc, ls, st, hh) := by
  simp only [ia_f] at h
  split at h <;> first | exact h.elim | skip
  all_goals (
    intro H locs lc hP hD hS hR
    exact lv_lsub hx hb hdg (h H locs lc hP hD hS hR))
theorem ia_s_lmul (hx : p.tables.exec = Jvm.exec) (hb : c.code = cc) (hdg : decode cc pc = .ok (.lmul, 1)) (h : ia_pre C Z (ia_X p l e R s m args below meth c Q cells slots D cl A H0 Sh ad ca nL) (ia_f Sh (pc, .lmul, 1, a, b, w, v, ts) ls st hh)) : ia_X p l e R s m args below meth c Q cells slots D cl A H0 Sh ad ca nL (pc, ls, st, hh) := by
  simp only [ia_f] at h
  split at h <;> first | exact h.elim | skip
  all_goals (
    intro H locs lc hP hD hS hR
    exact lv_lmul hx hb hdg (h H locs lc hP hD hS hR))
theorem ia_s_land (hx : p.tables.exec = Jvm.exec) (hb : c.code = cc) (hdg : decode cc pc = .ok (.land, 1)) (h : ia_pre C Z (ia_X p l e R s m args below meth c Q cells slots D cl A H0 Sh ad ca nL) (ia_f Sh (pc, .land, 1, a, b, w, v, ts) ls st hh)) : ia_X p l e R s m args below meth c Q cells slots D cl A H0 Sh ad ca nL (pc, ls, st, hh) := by
  simp only [ia_f] at h
  split at h <;> first | exact h.elim | skip
  all_goals (
    intro H locs lc hP hD hS hR
    exact lv_land hx hb hdg (h H locs lc hP hD hS hR))
theorem ia_s_lor (hx : p.tables.exec = Jvm.exec) (hb : c.code = cc) (hdg : decode cc pc = .ok (.lor, 1)) (h : ia_pre C Z (ia_X p l e R s m args below meth c Q cells slots D cl A H0 Sh ad ca nL) (ia_f Sh (pc, .lor, 1, a, b, w, v, ts) ls st hh)) : ia_X p l e R s m args below meth c Q cells slots D cl A H0 Sh ad ca nL (pc, ls, st, hh) := by
  simp only [ia_f] at h
  split at h <;> first | exact h.elim | skip
  all_goals (
    intro H locs lc hP hD hS hR
    exact lv_lor hx hb hdg (h H locs lc hP hD hS hR))
theorem ia_s_lneg (hx : p.tables.exec = Jvm.exec) (hb : c.code = cc) (hdg : decode cc pc = .ok (.lneg, 1)) (h : ia_pre C Z (ia_X p l e R s m args below meth c Q cells slots D cl A H0 Sh ad ca nL) (ia_f Sh (pc, .lneg, 1, a, b, w, v, ts) ls st hh)) : ia_X p l e R s m args below meth c Q cells slots D cl A H0 Sh ad ca nL (pc, ls, st, hh) := by
  simp only [ia_f] at h
  split at h <;> first | exact h.elim | skip
  all_goals (
    intro H locs lc hP hD hS hR
    exact lv_lneg hx hb hdg (h H locs lc hP hD hS hR))
theorem ia_s_dneg (hx : p.tables.exec = Jvm.exec) (hb : c.code = cc) (hdg : decode cc pc = .ok (.dneg, 1)) (h : ia_pre C Z (ia_X p l e R s m args below meth c Q cells slots D cl A H0 Sh ad ca nL) (ia_f Sh (pc, .dneg, 1, a, b, w, v, ts) ls st hh)) : ia_X p l e R s m args below meth c Q cells slots D cl A H0 Sh ad ca nL (pc, ls, st, hh) := by
  simp only [ia_f] at h
  split at h <;> first | exact h.elim | skip
  all_goals (
    intro H locs lc hP hD hS hR
    exact lv_dneg hx hb hdg (h H locs lc hP hD hS hR))
theorem ia_s_i2d (hx : p.tables.exec = Jvm.exec) (hb : c.code = cc) (hdg : decode cc pc = .ok (.i2d, 1)) (h : ia_pre C Z (ia_X p l e R s m args below meth c Q cells slots D cl A H0 Sh ad ca nL) (ia_f Sh (pc, .i2d, 1, a, b, w, v, ts) ls st hh)) : ia_X p l e R s m args below meth c Q cells slots D cl A H0 Sh ad ca nL (pc, ls, st, hh) := by
  simp only [ia_f] at h
  split at h <;> first | exact h.elim | skip
  all_goals (
    intro H locs lc hP hD hS hR
    exact lv_i2d hx hb hdg (h H locs lc hP hD hS hR))
theorem ia_s_l2d (hx : p.tables.exec = Jvm.exec) (hb : c.code = cc) (hdg : decode cc pc = .ok (.l2d, 1)) (h : ia_pre C Z (ia_X p l e R s m args below meth c Q cells slots D cl A H0 Sh ad ca nL) (ia_f Sh (pc, .l2d, 1, a, b, w, v, ts) ls st hh)) : ia_X p l e R s m args below meth c Q cells slots D cl A H0 Sh ad ca nL (pc, ls, st, hh) := by
  simp only [ia_f] at h
  split at h <;> first | exact h.elim | skip
  all_goals (
    intro H locs lc hP hD hS hR
    exact lv_l2d hx hb hdg (h H locs lc hP hD hS hR))
theorem ia_s_d2l (hx : p.tables.exec = Jvm.exec) (hb : c.code = cc) (hdg : decode cc pc = .ok (.d2l, 1)) (h : ia_pre C Z (ia_X p l e R s m args below meth c Q cells slots D cl A H0 Sh ad ca nL) (ia_f Sh (pc, .d2l, 1, a, b, w, v, ts) ls st hh)) : ia_X p l e R s m args below meth c Q cells slots D cl A H0 Sh ad ca nL (pc, ls, st, hh) := by
  simp only [ia_f] at h
  split at h <;> first | exact h.elim | skip
  all_goals (
    intro H locs lc hP hD hS hR
    exact lv_d2l hx hb hdg (h H locs lc hP hD hS hR))
theorem ia_s_irem (hx : p.tables.exec = Jvm.exec) (hb : c.code = cc) (hdg : decode cc pc = .ok (.irem, 1)) (h : ia_pre C Z (ia_X p l e R s m args below meth c Q cells slots D cl A H0 Sh ad ca nL) (ia_f Sh (pc, .irem, 1, a, b, w, v, ts) ls st hh)) : ia_X p l e R s m args below meth c Q cells slots D cl A H0 Sh ad ca nL (pc, ls, st, hh) := by
  simp only [ia_f] at h
  split at h <;> first | exact h.elim | skip
  all_goals (
    obtain ⟨hg, h⟩ := h
    intro H locs lc hP hD hS hR
    exact lv_irem hx hb hdg hg (h H locs lc hP hD hS hR))
theorem ia_s_lshl (hx : p.tables.exec = Jvm.exec) (hb : c.code = cc) (hdg : decode cc pc = .ok (.lshl, 1)) (h : ia_pre C Z (ia_X p l e R s m args below meth c Q cells slots D cl A H0 Sh ad ca nL) (ia_f Sh (pc, .lshl, 1, a, b, w, v, ts) ls st hh)) : ia_X p l e R s m args below meth c Q cells slots D cl A H0 Sh ad ca nL (pc, ls, st, hh) := by
  simp only [ia_f] at h
  split at h <;> first | exact h.elim | skip
  all_goals (
    intro H locs lc hP hD hS hR
    exact lv_lshl hx hb hdg rfl (h H locs lc hP hD hS hR))
theorem ia_s_lcmp (hx : p.tables.exec = Jvm.exec) (hb : c.code = cc) (hdg : decode cc pc = .ok (.lcmp, 1)) (h : ia_pre C Z (ia_X p l e R s m args below meth c Q cells slots D cl A H0 Sh ad ca nL) (ia_f Sh (pc, .lcmp, 1, a, b, w, v, ts) ls st hh)) : ia_X p l e R s m args below meth c Q cells slots D cl A H0 Sh ad ca nL (pc, ls, st, hh) := by
  simp only [ia_f] at h
  split at h <;> first | exact h.elim | skip
  all_goals (
    intro H locs lc hP hD hS hR
    exact W.lcmp hx hb hdg (h H locs lc hP hD hS hR))
theorem ia_s_dcmp (hx : p.tables.exec = Jvm.exec) (hb : c.code = cc) {op : CmpOp} (hdg : decode cc pc = .ok (.dcmp op, 1)) (h : ia_pre C Z (ia_X p l e R s m args below meth c Q cells slots D cl A H0 Sh ad ca nL) (ia_f Sh (pc, .dcmp op, 1, a, b, w, v, ts) ls st hh)) : ia_X p l e R s m args below meth c Q cells slots D cl A H0 Sh ad ca nL (pc, ls, st, hh) := by
  simp only [ia_f] at h
  split at h <;> first | exact h.elim | skip
  all_goals (
    intro H locs lc hP hD hS hR
    exact lv_dcmp hx hb hdg (h H locs lc hP hD hS hR))
theorem ia_s_dadd (hx : p.tables.exec = Jvm.exec) (hb : c.code = cc) (hdg : decode cc pc = .ok (.dadd, 1)) (h : ia_pre C Z (ia_X p l e R s m args below meth c Q cells slots D cl A H0 Sh ad ca nL) (ia_f Sh (pc, .dadd, 1, a, b, w, v, ts) ls st hh)) : ia_X p l e R s m args below meth c Q cells slots D cl A H0 Sh ad ca nL (pc, ls, st, hh) := by
  simp only [ia_f] at h
  split at h <;> first | exact h.elim | skip
  all_goals (
    obtain ⟨hg, h⟩ := h
    intro H locs lc hP hD hS hR
    exact lv_dadd hx hb hdg hg (h H locs lc hP hD hS hR))
theorem ia_s_dmul (hx : p.tables.exec = Jvm.exec) (hb : c.code = cc) (hdg : decode cc pc = .ok (.dmul, 1)) (h : ia_pre C Z (ia_X p l e R s m args below meth c Q cells slots D cl A H0 Sh ad ca nL) (ia_f Sh (pc, .dmul, 1, a, b, w, v, ts) ls st hh)) : ia_X p l e R s m args below meth c Q cells slots D cl A H0 Sh ad ca nL (pc, ls, st, hh) := by
  simp only [ia_f] at h
  split at h <;> first | exact h.elim | skip
  all_goals (
    obtain ⟨hg, h⟩ := h
    intro H locs lc hP hD hS hR
    exact lv_dmul hx hb hdg hg (h H locs lc hP hD hS hR))
theorem ia_s_ddiv (hx : p.tables.exec = Jvm.exec) (hb : c.code = cc) (hdg : decode cc pc = .ok (.ddiv, 1)) (h : ia_pre C Z (ia_X p l e R s m args below meth c Q cells slots D cl A H0 Sh ad ca nL) (ia_f Sh (pc, .ddiv, 1, a, b, w, v, ts) ls st hh)) : ia_X p l e R s m args below meth c Q cells slots D cl A H0 Sh ad ca nL (pc, ls, st, hh) := by
  simp only [ia_f] at h
  split at h <;> first | exact h.elim | skip
  all_goals (
    obtain ⟨hg, h⟩ := h
    intro H locs lc hP hD hS hR
    exact lv_ddiv hx hb hdg hg (h H locs lc hP hD hS hR))
theorem ia_s_i2l (hx : p.tables.exec = Jvm.exec) (hb : c.code = cc) (hdg : decode cc pc = .ok (.i2l, 1)) (h : ia_pre C Z (ia_X p l e R s m args below meth c Q cells slots D cl A H0 Sh ad ca nL) (ia_f Sh (pc, .i2l, 1, a, b, w, v, ts) ls st hh)) : ia_X p l e R s m args below meth c Q cells slots D cl A H0 Sh ad ca nL (pc, ls, st, hh) := by
  simp only [ia_f] at h
  split at h <;> first | exact h.elim | skip
  all_goals (
    intro H locs lc hP hD hS hR
    exact lv_i2l hx hb hdg rfl (h H locs lc hP hD hS hR))
theorem ia_s_i2b (hx : p.tables.exec = Jvm.exec) (hb : c.code = cc) (hdg : decode cc pc = .ok (.i2b, 1)) (h : ia_pre C Z (ia_X p l e R s m args below meth c Q cells slots D cl A H0 Sh ad ca nL) (ia_f Sh (pc, .i2b, 1, a, b, w, v, ts) ls st hh)) : ia_X p l e R s m args below meth c Q cells slots D cl A H0 Sh ad ca nL (pc, ls, st, hh) := by
  simp only [ia_f] at h
  split at h <;> first | exact h.elim | skip
  all_goals (
    intro H locs lc hP hD hS hR
    exact lv_i2b hx hb hdg rfl (h H locs lc hP hD hS hR))
theorem ia_s_dup (hx : p.tables.exec = Jvm.exec) (hb : c.code = cc) (hdg : decode cc pc = .ok (.dup, 1)) (h : ia_pre C Z (ia_X p l e R s m args below meth c Q cells slots D cl A H0 Sh ad ca nL) (ia_f Sh (pc, .dup, 1, a, b, w, v, ts) ls st hh)) : ia_X p l e R s m args below meth c Q cells slots D cl A H0 Sh ad ca nL (pc, ls, st, hh) := by
  simp only [ia_f] at h
  split at h <;> first | exact h.elim | skip
  all_goals (
    intro H locs lc hP hD hS hR
    exact lv_dup hx hb hdg rfl (h H locs lc hP hD hS hR))
theorem ia_s_dup2 (hx : p.tables.exec = Jvm.exec) (hb : c.code = cc) (hdg : decode cc pc = .ok (.dup2, 1)) (h : ia_pre C Z (ia_X p l e R s m args below meth c Q cells slots D cl A H0 Sh ad ca nL) (ia_f Sh (pc, .dup2, 1, a, b, w, v, ts) ls st hh)) : ia_X p l e R s m args below meth c Q cells slots D cl A H0 Sh ad ca nL (pc, ls, st, hh) := by
  simp only [ia_f] at h
  split at h <;> first | exact h.elim | skip
  all_goals (
    intro H locs lc hP hD hS hR
    exact lv_dup2_11 hx hb hdg rfl rfl (h H locs lc hP hD hS hR))
theorem ia_s_goto (hx : p.tables.exec = Jvm.exec) (hb : c.code = cc) {off : Int} (ht : (pc : Int) + off = (a : Int)) (hdg : decode cc pc = .ok (.goto off, 3)) (h : ia_pre C Z (ia_X p l e R s m args below meth c Q cells slots D cl A H0 Sh ad ca nL) (ia_f Sh (pc, .goto off, 3, a, b, w, v, ts) ls st hh)) : ia_X p l e R s m args below meth c Q cells slots D cl A H0 Sh ad ca nL (pc, ls, st, hh) := by
  intro H locs lc hP hD hS hR
  exact lv_goto hx hb hdg ht (h H locs lc hP hD hS hR)
theorem ia_s_icmp_eq (hx : p.tables.exec = Jvm.exec) (hb : c.code = cc) {off : Int} (ht : (pc : Int) + off = (a : Int)) (hdg : decode cc pc = .ok (.if_icmp .eq off, 3)) (h : ia_pre C Z (ia_X p l e R s m args below meth c Q cells slots D cl A H0 Sh ad ca nL) (ia_f Sh (pc, .if_icmp .eq off, 3, a, b, w, v, ts) ls st hh)) : ia_X p l e R s m args below meth c Q cells slots D cl A H0 Sh ad ca nL (pc, ls, st, hh) := by
  simp only [ia_f] at h
  split at h <;> first | exact h.elim | skip
  all_goals (
    intro H locs lc hP hD hS hR
    exact lv_icmp_eq hx hb hdg ht (fun q => h.1 q H locs lc hP hD hS hR) (fun q => h.2 q H locs lc hP hD hS hR))
theorem ia_s_if_eq (hx : p.tables.exec = Jvm.exec) (hb : c.code = cc) {off : Int} (ht : (pc : Int) + off = (a : Int)) (hdg : decode cc pc = .ok (.ifCond .eq off, 3)) (h : ia_pre C Z (ia_X p l e R s m args below meth c Q cells slots D cl A H0 Sh ad ca nL) (ia_f Sh (pc, .ifCond .eq off, 3, a, b, w, v, ts) ls st hh)) : ia_X p l e R s m args below meth c Q cells slots D cl A H0 Sh ad ca nL (pc, ls, st, hh) := by
  simp only [ia_f] at h
  split at h <;> first | exact h.elim | skip
  all_goals (
    intro H locs lc hP hD hS hR
    exact lv_if_eq hx hb hdg ht (fun q => h.1 q H locs lc hP hD hS hR) (fun q => h.2 q H locs lc hP hD hS hR))
theorem ia_s_icmp_ne (hx : p.tables.exec = Jvm.exec) (hb : c.code = cc) {off : Int} (ht : (pc : Int) + off = (a : Int)) (hdg : decode cc pc = .ok (.if_icmp .ne off, 3)) (h : ia_pre C Z (ia_X p l e R s m args below meth c Q cells slots D cl A H0 Sh ad ca nL) (ia_f Sh (pc, .if_icmp .ne off, 3, a, b, w, v, ts) ls st hh)) : ia_X p l e R s m args below meth c Q cells slots D cl A H0 Sh ad ca nL (pc, ls, st, hh) := by
  simp only [ia_f] at h
  split at h <;> first | exact h.elim | skip
  all_goals (
    intro H locs lc hP hD hS hR
    exact lv_icmp_ne hx hb hdg ht (fun q => h.2 q H locs lc hP hD hS hR) (fun q => h.1 (by first | exact q | exact Classical.not_not.mp q) H locs lc hP hD hS hR))
theorem ia_s_if_ne (hx : p.tables.exec = Jvm.exec) (hb : c.code = cc) {off : Int} (ht : (pc : Int) + off = (a : Int)) (hdg : decode cc pc = .ok (.ifCond .ne off, 3)) (h : ia_pre C Z (ia_X p l e R s m args below meth c Q cells slots D cl A H0 Sh ad ca nL) (ia_f Sh (pc, .ifCond .ne off, 3, a, b, w, v, ts) ls st hh)) : ia_X p l e R s m args below meth c Q cells slots D cl A H0 Sh ad ca nL (pc, ls, st, hh) := by
  simp only [ia_f] at h
  split at h <;> first | exact h.elim | skip
  all_goals (
    intro H locs lc hP hD hS hR
    exact lv_if_ne hx hb hdg ht (fun q => h.2 q H locs lc hP hD hS hR) (fun q => h.1 (by first | exact q | exact Classical.not_not.mp q) H locs lc hP hD hS hR))
theorem ia_s_icmp_lt (hx : p.tables.exec = Jvm.exec) (hb : c.code = cc) {off : Int} (ht : (pc : Int) + off = (a : Int)) (hdg : decode cc pc = .ok (.if_icmp .lt off, 3)) (h : ia_pre C Z (ia_X p l e R s m args below meth c Q cells slots D cl A H0 Sh ad ca nL) (ia_f Sh (pc, .if_icmp .lt off, 3, a, b, w, v, ts) ls st hh)) : ia_X p l e R s m args below meth c Q cells slots D cl A H0 Sh ad ca nL (pc, ls, st, hh) := by
  simp only [ia_f] at h
  split at h <;> first | exact h.elim | skip
  all_goals (
    intro H locs lc hP hD hS hR
    exact lv_icmp_lt hx hb hdg ht (fun q => h.1 q H locs lc hP hD hS hR) (fun q => h.2 q H locs lc hP hD hS hR))
theorem ia_s_if_lt (hx : p.tables.exec = Jvm.exec) (hb : c.code = cc) {off : Int} (ht : (pc : Int) + off = (a : Int)) (hdg : decode cc pc = .ok (.ifCond .lt off, 3)) (h : ia_pre C Z (ia_X p l e R s m args below meth c Q cells slots D cl A H0 Sh ad ca nL) (ia_f Sh (pc, .ifCond .lt off, 3, a, b, w, v, ts) ls st hh)) : ia_X p l e R s m args below meth c Q cells slots D cl A H0 Sh ad ca nL (pc, ls, st, hh) := by
  simp only [ia_f] at h
  split at h <;> first | exact h.elim | skip
  all_goals (
    intro H locs lc hP hD hS hR
    exact lv_if_lt hx hb hdg ht (fun q => h.1 q H locs lc hP hD hS hR) (fun q => h.2 q H locs lc hP hD hS hR))
theorem ia_s_icmp_ge (hx : p.tables.exec = Jvm.exec) (hb : c.code = cc) {off : Int} (ht : (pc : Int) + off = (a : Int)) (hdg : decode cc pc = .ok (.if_icmp .ge off, 3)) (h : ia_pre C Z (ia_X p l e R s m args below meth c Q cells slots D cl A H0 Sh ad ca nL) (ia_f Sh (pc, .if_icmp .ge off, 3, a, b, w, v, ts) ls st hh)) : ia_X p l e R s m args below meth c Q cells slots D cl A H0 Sh ad ca nL (pc, ls, st, hh) := by
  simp only [ia_f] at h
  split at h <;> first | exact h.elim | skip
  all_goals (
    intro H locs lc hP hD hS hR
    exact lv_icmp_ge hx hb hdg ht (fun q => h.2 (Int32.not_lt.mpr q) H locs lc hP hD hS hR) (fun q => h.1 (Int32.not_le.mp q) H locs lc hP hD hS hR))
theorem ia_s_if_ge (hx : p.tables.exec = Jvm.exec) (hb : c.code = cc) {off : Int} (ht : (pc : Int) + off = (a : Int)) (hdg : decode cc pc = .ok (.ifCond .ge off, 3)) (h : ia_pre C Z (ia_X p l e R s m args below meth c Q cells slots D cl A H0 Sh ad ca nL) (ia_f Sh (pc, .ifCond .ge off, 3, a, b, w, v, ts) ls st hh)) : ia_X p l e R s m args below meth c Q cells slots D cl A H0 Sh ad ca nL (pc, ls, st, hh) := by
  simp only [ia_f] at h
  split at h <;> first | exact h.elim | skip
  all_goals (
    intro H locs lc hP hD hS hR
    exact lv_if_ge hx hb hdg ht (fun q => h.2 (Int32.not_lt.mpr q) H locs lc hP hD hS hR) (fun q => h.1 (Int32.not_le.mp q) H locs lc hP hD hS hR))
theorem ia_s_icmp_gt (hx : p.tables.exec = Jvm.exec) (hb : c.code = cc) {off : Int} (ht : (pc : Int) + off = (a : Int)) (hdg : decode cc pc = .ok (.if_icmp .gt off, 3)) (h : ia_pre C Z (ia_X p l e R s m args below meth c Q cells slots D cl A H0 Sh ad ca nL) (ia_f Sh (pc, .if_icmp .gt off, 3, a, b, w, v, ts) ls st hh)) : ia_X p l e R s m args below meth c Q cells slots D cl A H0 Sh ad ca nL (pc, ls, st, hh) := by
  simp only [ia_f] at h
  split at h <;> first | exact h.elim | skip
  all_goals (
    intro H locs lc hP hD hS hR
    exact lv_icmp_gt hx hb hdg ht (fun q => h.1 q H locs lc hP hD hS hR) (fun q => h.2 q H locs lc hP hD hS hR))
theorem ia_s_if_gt (hx : p.tables.exec = Jvm.exec) (hb : c.code = cc) {off : Int} (ht : (pc : Int) + off = (a : Int)) (hdg : decode cc pc = .ok (.ifCond .gt off, 3)) (h : ia_pre C Z (ia_X p l e R s m args below meth c Q cells slots D cl A H0 Sh ad ca nL) (ia_f Sh (pc, .ifCond .gt off, 3, a, b, w, v, ts) ls st hh)) : ia_X p l e R s m args below meth c Q cells slots D cl A H0 Sh ad ca nL (pc, ls, st, hh) := by
  simp only [ia_f] at h
  split at h <;> first | exact h.elim | skip
  all_goals (
    intro H locs lc hP hD hS hR
    exact lv_if_gt hx hb hdg ht (fun q => h.1 q H locs lc hP hD hS hR) (fun q => h.2 q H locs lc hP hD hS hR))
theorem ia_s_icmp_le (hx : p.tables.exec = Jvm.exec) (hb : c.code = cc) {off : Int} (ht : (pc : Int) + off = (a : Int)) (hdg : decode cc pc = .ok (.if_icmp .le off, 3)) (h : ia_pre C Z (ia_X p l e R s m args below meth c Q cells slots D cl A H0 Sh ad ca nL) (ia_f Sh (pc, .if_icmp .le off, 3, a, b, w, v, ts) ls st hh)) : ia_X p l e R s m args below meth c Q cells slots D cl A H0 Sh ad ca nL (pc, ls, st, hh) := by
  simp only [ia_f] at h
  split at h <;> first | exact h.elim | skip
  all_goals (
    intro H locs lc hP hD hS hR
    exact lv_icmp_le hx hb hdg ht (fun q => h.2 (Int32.not_lt.mpr q) H locs lc hP hD hS hR) (fun q => h.1 (Int32.not_le.mp q) H locs lc hP hD hS hR))
theorem ia_s_if_le (hx : p.tables.exec = Jvm.exec) (hb : c.code = cc) {off : Int} (ht : (pc : Int) + off = (a : Int)) (hdg : decode cc pc = .ok (.ifCond .le off, 3)) (h : ia_pre C Z (ia_X p l e R s m args below meth c Q cells slots D cl A H0 Sh ad ca nL) (ia_f Sh (pc, .ifCond .le off, 3, a, b, w, v, ts) ls st hh)) : ia_X p l e R s m args below meth c Q cells slots D cl A H0 Sh ad ca nL (pc, ls, st, hh) := by
  simp only [ia_f] at h
  split at h <;> first | exact h.elim | skip
  all_goals (
    intro H locs lc hP hD hS hR
    exact lv_if_le hx hb hdg ht (fun q => h.2 (Int32.not_lt.mpr q) H locs lc hP hD hS hR) (fun q => h.1 (Int32.not_le.mp q) H locs lc hP hD hS hR))
end IA
end
section
section IA2
variable {p : Program} {l : Launch} {e : Env} {R : Room} {s : State} {m : MethodId} {args : Array Value} {below : List Frame} {meth : Method} {c : Code} {Q : State → Prop} {cells slots : Nat}
variable {cc : ByteArray} {D : va_G} {cl : List vw_C} {A : Nat → Prop} {tys : List (ClassId × FieldType)} {H0 : Heap} {Sh : List ia_C} {ad : Nat → Nat} {ca : Nat → ClassId} {nL : Nat}
variable {C : Nat → List Value → ia_H → Option Value → ia_H → Prop} {Z : Option Value → ia_H → Prop} {pc a b w : Nat} {v : Value} {ts : List (Int × Nat)} {ls : ia_L} {st : List Value} {hh : ia_H}
/-- no array is longer than an int can count -/
def ia_Z (Sh : List ia_C) : Prop := ∀ (x : Nat) (ty : FieldType) (n : Nat), ia_at? Sh x = some (.inl (ty, n)) → n < 2 ^ 31
/-- each array cell's class is known -/
def ia_T (Sh : List ia_C) (ca : Nat → ClassId) (tys : List (ClassId × FieldType)) : Prop :=
  (∀ (x : Nat) (ty : FieldType) (n : Nat), ia_at? Sh x = some (.inl (ty, n)) → ∃ t0 : Nat, tys[t0]? = some (ca x, ty)) ∧ ∀ (x : Nat) (C : String) (l : List Nat), ia_at? Sh x = some (.inr (.inr (C, l))) → ∃ t0 : Nat, tys[t0]? = some (ca x, .object C)
theorem ia_s_iaload (hx : p.tables.exec = Jvm.exec) (hb : c.code = cc) (hK : va_K D cl tys s) (hT : ia_T Sh ca tys) (hZ : ia_Z Sh) (hdg : decode cc pc = .ok (.iaload, 1)) (h : ia_pre C Z (ia_X p l e R s m args below meth c Q cells slots D cl A H0 Sh ad ca nL) (ia_f Sh (pc, .iaload, 1, a, b, w, v, ts) ls st hh)) : ia_X p l e R s m args below meth c Q cells slots D cl A H0 Sh ad ca nL (pc, ls, st, hh) := by
  simp only [ia_f] at h
  split at h <;> first | exact h.elim | skip
  split at h <;> first | exact h.elim | skip
  rename_i hc
  obtain ⟨t0, ht0⟩ := hT.1 _ _ _ hc
  obtain ⟨j, ⟨hij, hj⟩, h⟩ := h
  have e0 : j = (nI j).toNatClampNeg := (nI_clamp (Nat.lt_trans hj (hZ _ _ _ hc))).symm
  rw [e0] at h
  subst hij
  intro H locs lc hP hD hS hR
  exact va_iald hx hb hK hP _ t0 (ia_w_at hc) ht0 (vp_in_nI hj (hZ _ _ _ hc)) hdg (h H locs lc hP hD hS hR)
theorem ia_s_laload (hx : p.tables.exec = Jvm.exec) (hb : c.code = cc) (hK : va_K D cl tys s) (hT : ia_T Sh ca tys) (hZ : ia_Z Sh) (hdg : decode cc pc = .ok (.laload, 1)) (h : ia_pre C Z (ia_X p l e R s m args below meth c Q cells slots D cl A H0 Sh ad ca nL) (ia_f Sh (pc, .laload, 1, a, b, w, v, ts) ls st hh)) : ia_X p l e R s m args below meth c Q cells slots D cl A H0 Sh ad ca nL (pc, ls, st, hh) := by
  simp only [ia_f] at h
  split at h <;> first | exact h.elim | skip
  split at h <;> first | exact h.elim | skip
  rename_i hc
  obtain ⟨t0, ht0⟩ := hT.1 _ _ _ hc
  obtain ⟨j, ⟨hij, hj⟩, h⟩ := h
  have e0 : j = (nI j).toNatClampNeg := (nI_clamp (Nat.lt_trans hj (hZ _ _ _ hc))).symm
  rw [e0] at h
  subst hij
  intro H locs lc hP hD hS hR
  exact va_lald hx hb hK hP _ t0 (ia_w_at hc) ht0 (vp_in_nI hj (hZ _ _ _ hc)) hdg (h H locs lc hP hD hS hR)
theorem ia_s_baload (hx : p.tables.exec = Jvm.exec) (hb : c.code = cc) (hK : va_K D cl tys s) (hT : ia_T Sh ca tys) (hZ : ia_Z Sh) (hdg : decode cc pc = .ok (.baload, 1)) (h : ia_pre C Z (ia_X p l e R s m args below meth c Q cells slots D cl A H0 Sh ad ca nL) (ia_f Sh (pc, .baload, 1, a, b, w, v, ts) ls st hh)) : ia_X p l e R s m args below meth c Q cells slots D cl A H0 Sh ad ca nL (pc, ls, st, hh) := by
  simp only [ia_f] at h
  split at h <;> first | exact h.elim | skip
  split at h <;> first | exact h.elim | skip
  · rename_i hc
    obtain ⟨t0, ht0⟩ := hT.1 _ _ _ hc
    obtain ⟨j, ⟨hij, hj⟩, h⟩ := h
    have e0 : j = (nI j).toNatClampNeg := (nI_clamp (Nat.lt_trans hj (hZ _ _ _ hc))).symm
    rw [e0] at h
    subst hij
    intro H locs lc hP hD hS hR
    exact va_bald hx hb hK hP _ t0 (ia_w_at hc) ht0 (vp_in_nI hj (hZ _ _ _ hc)) hdg (h H locs lc hP hD hS hR)
  · rename_i hc
    obtain ⟨t0, ht0⟩ := hT.1 _ _ _ hc
    obtain ⟨j, ⟨hij, hj⟩, h⟩ := h
    have e0 : j = (nI j).toNatClampNeg := (nI_clamp (Nat.lt_trans hj (hZ _ _ _ hc))).symm
    rw [e0] at h
    subst hij
    intro H locs lc hP hD hS hR
    exact va_zald hx hb hK hP _ t0 (ia_w_at hc) ht0 (vp_in_nI hj (hZ _ _ _ hc)) hdg (h H locs lc hP hD hS hR)
theorem ia_s_iastore (hx : p.tables.exec = Jvm.exec) (hb : c.code = cc) (hK : va_K D cl tys s) (hT : ia_T Sh ca tys) (hZ : ia_Z Sh) (hdg : decode cc pc = .ok (.iastore, 1)) (h : ia_pre C Z (ia_X p l e R s m args below meth c Q cells slots D cl A H0 Sh ad ca nL) (ia_f Sh (pc, .iastore, 1, a, b, w, v, ts) ls st hh)) : ia_X p l e R s m args below meth c Q cells slots D cl A H0 Sh ad ca nL (pc, ls, st, hh) := by
  simp only [ia_f] at h
  split at h <;> first | exact h.elim | skip
  split at h <;> first | exact h.elim | skip
  rename_i z i x st' _ n hc
  obtain ⟨t0, ht0⟩ := hT.1 _ _ _ hc
  obtain ⟨j, ⟨hij, hj⟩, h⟩ := h
  have e0 : j = (nI j).toNatClampNeg := (nI_clamp (Nat.lt_trans hj (hZ _ _ _ hc))).symm
  rw [e0] at h
  subst hij
  intro H locs lc hP hD hS hR
  have e := ia_w_set (ad := ad) (ca := ca) (h := hh) (h' := (ia_uI hh.1 x (nI j).toNatClampNeg z, hh.2)) hc (fun y hy => ia_uI_ne hy) (fun y _ => rfl) (v := .inl (ca x, n, .inl (upd (hh.1 x) (nI j).toNatClampNeg z))) (by simp only [ia_cell, ia_uI, if_true])
  exact va_iast hx hb hK hP hD hS _ t0 (ia_w_at hc) ht0 (vp_in_nI hj (hZ _ _ _ hc)) hdg (fun H1 locs1 hP1 hD1 hS1 => h H1 locs1 lc (e ▸ hP1) (e ▸ hD1) hS1 hR)
theorem ia_s_bastore (hx : p.tables.exec = Jvm.exec) (hb : c.code = cc) (hK : va_K D cl tys s) (hT : ia_T Sh ca tys) (hZ : ia_Z Sh) (hdg : decode cc pc = .ok (.bastore, 1)) (h : ia_pre C Z (ia_X p l e R s m args below meth c Q cells slots D cl A H0 Sh ad ca nL) (ia_f Sh (pc, .bastore, 1, a, b, w, v, ts) ls st hh)) : ia_X p l e R s m args below meth c Q cells slots D cl A H0 Sh ad ca nL (pc, ls, st, hh) := by
  simp only [ia_f] at h
  split at h <;> first | exact h.elim | skip
  split at h <;> first | exact h.elim | skip
  · rename_i z i x st' _ n hc
    obtain ⟨t0, ht0⟩ := hT.1 _ _ _ hc
    obtain ⟨j, ⟨hij, hj⟩, h⟩ := h
    have e0 : j = (nI j).toNatClampNeg := (nI_clamp (Nat.lt_trans hj (hZ _ _ _ hc))).symm
    rw [e0] at h
    subst hij
    intro H locs lc hP hD hS hR
    have e := ia_w_set (ad := ad) (ca := ca) (h := hh) (h' := (ia_uI hh.1 x (nI j).toNatClampNeg (vp_nar .byte z), hh.2)) hc (fun y hy => ia_uI_ne hy) (fun y _ => rfl) (v := .inl (ca x, n, .inl (upd (hh.1 x) (nI j).toNatClampNeg (vp_nar .byte z)))) (by simp only [ia_cell, ia_uI, if_true])
    exact va_bast hx hb hK hP hD hS _ t0 (ia_w_at hc) ht0 (vp_in_nI hj (hZ _ _ _ hc)) hdg (fun H1 locs1 hP1 hD1 hS1 => h H1 locs1 lc (e ▸ hP1) (e ▸ hD1) hS1 hR)
  · rename_i z i x st' _ n hc
    obtain ⟨t0, ht0⟩ := hT.1 _ _ _ hc
    obtain ⟨j, ⟨hij, hj⟩, h⟩ := h
    have e0 : j = (nI j).toNatClampNeg := (nI_clamp (Nat.lt_trans hj (hZ _ _ _ hc))).symm
    rw [e0] at h
    subst hij
    intro H locs lc hP hD hS hR
    have e := ia_w_set (ad := ad) (ca := ca) (h := hh) (h' := (ia_uI hh.1 x (nI j).toNatClampNeg (vp_nar .boolean z), hh.2)) hc (fun y hy => ia_uI_ne hy) (fun y _ => rfl) (v := .inl (ca x, n, .inl (upd (hh.1 x) (nI j).toNatClampNeg (vp_nar .boolean z)))) (by simp only [ia_cell, ia_uI, if_true])
    exact va_zast hx hb hK hP hD hS _ t0 (ia_w_at hc) ht0 (vp_in_nI hj (hZ _ _ _ hc)) hdg (fun H1 locs1 hP1 hD1 hS1 => h H1 locs1 lc (e ▸ hP1) (e ▸ hD1) hS1 hR)
theorem ia_s_lastore (hx : p.tables.exec = Jvm.exec) (hb : c.code = cc) (hK : va_K D cl tys s) (hT : ia_T Sh ca tys) (hZ : ia_Z Sh) (hdg : decode cc pc = .ok (.lastore, 1)) (h : ia_pre C Z (ia_X p l e R s m args below meth c Q cells slots D cl A H0 Sh ad ca nL) (ia_f Sh (pc, .lastore, 1, a, b, w, v, ts) ls st hh)) : ia_X p l e R s m args below meth c Q cells slots D cl A H0 Sh ad ca nL (pc, ls, st, hh) := by
  simp only [ia_f] at h
  split at h <;> first | exact h.elim | skip
  split at h <;> first | exact h.elim | skip
  rename_i z i x st' _ n hc
  obtain ⟨t0, ht0⟩ := hT.1 _ _ _ hc
  obtain ⟨j, ⟨hij, hj⟩, h⟩ := h
  have e0 : j = (nI j).toNatClampNeg := (nI_clamp (Nat.lt_trans hj (hZ _ _ _ hc))).symm
  rw [e0] at h
  subst hij
  intro H locs lc hP hD hS hR
  have e := ia_w_set (ad := ad) (ca := ca) (h := hh) (h' := (hh.1, ia_uL hh.2 x (nI j).toNatClampNeg z)) hc (fun y _ => rfl) (fun y hy => ia_uL_ne hy) (v := .inl (ca x, n, .inr (.inl (vp_updL (hh.2 x) (nI j).toNatClampNeg z)))) (by simp only [ia_cell, ia_uL, if_true])
  exact va_last hx hb hK hP hD hS _ t0 (ia_w_at hc) ht0 (vp_in_nI hj (hZ _ _ _ hc)) hdg (fun H1 locs1 hP1 hD1 hS1 => h H1 locs1 lc (e ▸ hP1) (e ▸ hD1) hS1 hR)
theorem ia_s_arraylength (hx : p.tables.exec = Jvm.exec) (hb : c.code = cc) (hK : va_K D cl tys s) (hT : ia_T Sh ca tys) (hZ : ia_Z Sh) (hdg : decode cc pc = .ok (.arraylength, 1)) (h : ia_pre C Z (ia_X p l e R s m args below meth c Q cells slots D cl A H0 Sh ad ca nL) (ia_f Sh (pc, .arraylength, 1, a, b, w, v, ts) ls st hh)) : ia_X p l e R s m args below meth c Q cells slots D cl A H0 Sh ad ca nL (pc, ls, st, hh) := by
  simp only [ia_f] at h
  split at h <;> first | exact h.elim | skip
  split at h <;> first | exact h.elim | skip
  · rename_i x st' _ ty n hc
    obtain ⟨t0, ht0⟩ := hT.1 _ _ _ hc
    intro H locs lc hP hD hS hR
    have hw := ia_w_at (ad := ad) (ca := ca) (h := hh) hc
    cases ty <;> exact va_alen hx hb hK hP _ t0 hw ht0 rfl hdg (h H locs lc hP hD hS hR)
  · rename_i x st' _ C0 n hc
    obtain ⟨t0, ht0⟩ := hT.2 _ _ _ hc
    intro H locs lc hP hD hS hR
    exact va_alen hx hb hK hP _ t0 (ia_w_at hc) ht0 rfl hdg (h H locs lc hP hD hS hR)
theorem ia_pick_lt : ∀ {l : List Nat} {j : Nat}, j < l.length → ∃ x, ia_pick l j = some x
  | [], _, h => by simp at h
  | x :: _, 0, _ => ⟨x, rfl⟩
  | _ :: l, j + 1, h => ia_pick_lt (l := l) (j := j) (by simp at h; omega)
theorem ia_s_aaload (hx : p.tables.exec = Jvm.exec) (hb : c.code = cc) (hK : va_K D cl tys s) (hT : ia_T Sh ca tys) (hl : ∀ x C l, ia_at? Sh x = some (.inr (.inr (C, l))) → l.length < 2 ^ 31) (hdg : decode cc pc = .ok (.aaload, 1)) (h : ia_pre C Z (ia_X p l e R s m args below meth c Q cells slots D cl A H0 Sh ad ca nL) (ia_f Sh (pc, .aaload, 1, a, b, w, v, ts) ls st hh)) : ia_X p l e R s m args below meth c Q cells slots D cl A H0 Sh ad ca nL (pc, ls, st, hh) := by
  simp only [ia_f] at h
  split at h <;> first | exact h.elim | skip
  split at h <;> first | exact h.elim | skip
  rename_i i x st' _ C0 l0 hc
  obtain ⟨t0, ht0⟩ := hT.2 _ _ _ hc
  intro H locs lc hP hD hS hR
  obtain ⟨j, ⟨hij, hj⟩, hX⟩ := h
  obtain ⟨y, hy⟩ := ia_pick_lt hj
  have hij2 : i.toNatClampNeg = j := by rw [hij]; exact nI_clamp (Nat.lt_trans hj (hl _ _ _ hc))
  refine va_aldq hx hb hK hP _ t0 (ia_w_at hc) ht0 (by rw [hij]; exact vp_in_nI hj (hl _ _ _ hc)) hdg ?_
  simp only [hy] at hX
  rw [hij2, hy]
  exact hX H locs lc hP hD hS hR
theorem ia_beq {x y : Nat} (h : Nat.beq x y = true) : x = y := Nat.eq_of_beq_eq_true h
/-- what the tables say of a class of the list -/
def ia_Cl (Ts : List Cond) (cl : List vw_C) (ty0 : Nat → Nat → FieldType) : Prop := ∀ (ci : Nat) (q : vw_C), cl[ci]? = some q → (∀ w ∈ u_ws q.1 q.2.1 q.2.2, w ∈ Ts) ∧ (∀ k, k < q.2.2 → parseFieldDescriptor (q.2.1 k).2.2.1 = some (ty0 ci k)) ∧ ∀ a, a < q.2.2 → ∀ b, b < q.2.2 → a ≠ b → (q.2.1 a).2.1 ≠ (q.2.1 b).2.1
theorem ia_s_getfield (hx : p.tables.exec = Jvm.exec) (hb : c.code = cc) {own : String} {idx : Nat} {Ts : List Cond} {ty0 : Nat → Nat → FieldType} {q : vw_C} (hts : ∀ w ∈ Ts, w.before args s = true) (hown : s.vm.findClass own = some m.cls) (hK : va_K D cl tys s) (hCl : ia_Cl Ts cl ty0) (hq : cl[a]? = some q) (hbN : b < q.2.2) (hlink : (Cond.fieldLink own idx (q.2.1 b).1 (q.2.1 b).2.1 (q.2.1 b).2.2.1).before args s = true) (hdg : decode cc pc = .ok (.getfield idx, 3)) (h : ia_pre C Z (ia_X p l e R s m args below meth c Q cells slots D cl A H0 Sh ad ca nL) (ia_f Sh (pc, .getfield idx, 3, a, b, w, v, ts) ls st hh)) : ia_X p l e R s m args below meth c Q cells slots D cl A H0 Sh ad ca nL (pc, ls, st, hh) := by
  simp only [ia_f] at h
  split at h <;> first | exact h.elim | skip
  rename_i x st'
  split at h <;> first | exact h.elim | skip
  rename_i ci ks hc
  cases hbe : Nat.beq ci a with
  | false => rw [hbe] at h; exact h.elim
  | true =>
    rw [hbe] at h
    have hci := ia_beq hbe
    subst hci
    simp only [cond_true] at h
    intro H locs lc hP hD hS hR
    have hw := ia_w_at (ad := ad) (ca := ca) (h := hh) hc
    split at h <;> first | exact h.elim | skip
    · rename_i y hk
      exact va_get hx hb hts (hCl _ _ hq).1 hown hK hP x hw hq b hbN hlink (fun _ h9 => h9) (v := .ref (ad y)) (by rw [ia_slots_get, hk]; simp only [Option.map_some, ia_slot]) hdg (h H locs lc hP hD hS hR)
    · rename_i hk
      exact va_get hx hb hts (hCl _ _ hq).1 hown hK hP x hw hq b hbN hlink (fun _ h9 => h9) (v := .int (hh.1 x b)) (by rw [ia_slots_get, hk, Nat.zero_add]; simp only [Option.map_some, ia_slot]) hdg (h H locs lc hP hD hS hR)
    · rename_i hk
      exact va_get hx hb hts (hCl _ _ hq).1 hown hK hP x hw hq b hbN hlink (fun _ h9 => h9) (v := .long (hh.2 x b)) (by rw [ia_slots_get, hk, Nat.zero_add]; simp only [Option.map_some, ia_slot]) hdg (h H locs lc hP hD hS hR)
theorem ia_s_putfield (hx : p.tables.exec = Jvm.exec) (hb : c.code = cc) {own : String} {idx : Nat} {Ts : List Cond} {ty0 : Nat → Nat → FieldType} {q : vw_C} (hts : ∀ w ∈ Ts, w.before args s = true) (hown : s.vm.findClass own = some m.cls) (hK : va_K D cl tys s) (hCl : ia_Cl Ts cl ty0) (hq : cl[a]? = some q) (hbN : b < q.2.2) (hlink : (Cond.fieldLink own idx (q.2.1 b).1 (q.2.1 b).2.1 (q.2.1 b).2.2.1).before args s = true) (hfin : (q.2.1 b).2.2.2 = false) (hkd : ∀ x ci ks, ia_at? Sh x = some (.inr (.inl (ci, ks))) → ci = a → (ia_kind ks b = some (.inr false) → ty0 a b = .int) ∧ (ia_kind ks b = some (.inr true) → ty0 a b = .long)) (hdg : decode cc pc = .ok (.putfield idx, 3)) (h : ia_pre C Z (ia_X p l e R s m args below meth c Q cells slots D cl A H0 Sh ad ca nL) (ia_f Sh (pc, .putfield idx, 3, a, b, w, v, ts) ls st hh)) : ia_X p l e R s m args below meth c Q cells slots D cl A H0 Sh ad ca nL (pc, ls, st, hh) := by
  simp only [ia_f] at h
  split at h <;> first | exact h.elim | skip
  · rename_i z x st'
    split at h <;> first | exact h.elim | skip
    rename_i ci ks hc
    cases hbe : Nat.beq ci a with
    | false => rw [hbe] at h; exact h.elim
    | true =>
      rw [hbe] at h
      have hci := ia_beq hbe
      subst hci
      simp only [cond_true] at h
      split at h <;> first | exact h.elim | skip
      rename_i hk
      intro H locs lc hP hD hS hR
      have hw := ia_w_at (ad := ad) (ca := ca) (h := hh) hc
      have hlen : b < (ia_slots ad hh x 0 ks).length := by
        have e : (ia_slots ad hh x 0 ks)[b]? = some (ia_slot ad hh x (0 + b) (.inr false)) := by rw [ia_slots_get, hk]; rfl
        exact (List.getElem?_eq_some_iff.mp e).1
      have e := ia_w_set (ad := ad) (ca := ca) (h := hh) (h' := (ia_uI hh.1 x b z, hh.2)) hc (fun y hy => ia_uI_ne hy) (fun y _ => rfl) (v := .inr (ci, (ia_slots ad hh x 0 ks).set b (.int z))) (by simp only [ia_cell, ia_slots_setI hk])
      exact va_put hx hb hts (hCl _ _ hq).1 (ty0 ci) (hCl _ _ hq).2.1 (hCl _ _ hq).2.2 hown hK hP hD hS x hw hq b hbN hlink (fun _ h9 => h9) hfin (ty := .int) (v := .int z) (by rw [(hCl _ _ hq).2.1 b hbN, (hkd _ _ _ hc rfl).1 hk]) rfl rfl hlen hdg (fun H1 locs1 hP1 hD1 hS1 => h H1 locs1 lc (e ▸ hP1) (e ▸ hD1) hS1 hR)
  · rename_i z x st'
    split at h <;> first | exact h.elim | skip
    rename_i ci ks hc
    cases hbe : Nat.beq ci a with
    | false => rw [hbe] at h; exact h.elim
    | true =>
      rw [hbe] at h
      have hci := ia_beq hbe
      subst hci
      simp only [cond_true] at h
      split at h <;> first | exact h.elim | skip
      rename_i hk
      intro H locs lc hP hD hS hR
      have hw := ia_w_at (ad := ad) (ca := ca) (h := hh) hc
      have hlen : b < (ia_slots ad hh x 0 ks).length := by
        have e : (ia_slots ad hh x 0 ks)[b]? = some (ia_slot ad hh x (0 + b) (.inr true)) := by rw [ia_slots_get, hk]; rfl
        exact (List.getElem?_eq_some_iff.mp e).1
      have e := ia_w_set (ad := ad) (ca := ca) (h := hh) (h' := (hh.1, ia_uL hh.2 x b z)) hc (fun y _ => rfl) (fun y hy => ia_uL_ne hy) (v := .inr (ci, (ia_slots ad hh x 0 ks).set b (.long z))) (by simp only [ia_cell, ia_slots_setL hk])
      exact va_put hx hb hts (hCl _ _ hq).1 (ty0 ci) (hCl _ _ hq).2.1 (hCl _ _ hq).2.2 hown hK hP hD hS x hw hq b hbN hlink (fun _ h9 => h9) hfin (ty := .long) (v := .long z) (by rw [(hCl _ _ hq).2.1 b hbN, (hkd _ _ _ hc rfl).2 hk]) rfl rfl hlen hdg (fun H1 locs1 hP1 hD1 hS1 => h H1 locs1 lc (e ▸ hP1) (e ▸ hD1) hS1 hR)
theorem ia_s_getfieldN (hx : p.tables.exec = Jvm.exec) (hb : c.code = cc) {own : String} {idx : Nat} {Ts : List Cond} {ty0 : Nat → Nat → FieldType} {q : vw_C} (hts : ∀ w ∈ Ts, w.before args s = true) (hown : s.vm.findClass own = some m.cls) (hK : va_K D cl tys s) (hCl : ia_Cl Ts cl ty0) (hq : cl[a]? = some q) (hbN : b < q.2.2) {host : String} (hlink : (Cond.fieldLinkNest own idx (q.2.1 b).1 (q.2.1 b).2.1 (q.2.1 b).2.2.1 host).before args s = true) (hdg : decode cc pc = .ok (.getfield idx, 3)) (h : ia_pre C Z (ia_X p l e R s m args below meth c Q cells slots D cl A H0 Sh ad ca nL) (ia_f Sh (pc, .getfield idx, 3, a, b, w, v, ts) ls st hh)) : ia_X p l e R s m args below meth c Q cells slots D cl A H0 Sh ad ca nL (pc, ls, st, hh) := by
  simp only [ia_f] at h
  split at h <;> first | exact h.elim | skip
  rename_i x st'
  split at h <;> first | exact h.elim | skip
  rename_i ci ks hc
  cases hbe : Nat.beq ci a with
  | false => rw [hbe] at h; exact h.elim
  | true =>
    rw [hbe] at h
    have hci := ia_beq hbe
    subst hci
    simp only [cond_true] at h
    intro H locs lc hP hD hS hR
    have hw := ia_w_at (ad := ad) (ca := ca) (h := hh) hc
    split at h <;> first | exact h.elim | skip
    · rename_i y hk
      exact va_getN hx hb hts (hCl _ _ hq).1 hown hK hP x hw hq b hbN hlink (fun _ h9 => h9) (v := .ref (ad y)) (by rw [ia_slots_get, hk]; simp only [Option.map_some, ia_slot]) hdg (h H locs lc hP hD hS hR)
    · rename_i hk
      exact va_getN hx hb hts (hCl _ _ hq).1 hown hK hP x hw hq b hbN hlink (fun _ h9 => h9) (v := .int (hh.1 x b)) (by rw [ia_slots_get, hk, Nat.zero_add]; simp only [Option.map_some, ia_slot]) hdg (h H locs lc hP hD hS hR)
    · rename_i hk
      exact va_getN hx hb hts (hCl _ _ hq).1 hown hK hP x hw hq b hbN hlink (fun _ h9 => h9) (v := .long (hh.2 x b)) (by rw [ia_slots_get, hk, Nat.zero_add]; simp only [Option.map_some, ia_slot]) hdg (h H locs lc hP hD hS hR)
theorem ia_s_putfieldN (hx : p.tables.exec = Jvm.exec) (hb : c.code = cc) {own : String} {idx : Nat} {Ts : List Cond} {ty0 : Nat → Nat → FieldType} {q : vw_C} (hts : ∀ w ∈ Ts, w.before args s = true) (hown : s.vm.findClass own = some m.cls) (hK : va_K D cl tys s) (hCl : ia_Cl Ts cl ty0) (hq : cl[a]? = some q) (hbN : b < q.2.2) {host : String} (hlink : (Cond.fieldLinkNest own idx (q.2.1 b).1 (q.2.1 b).2.1 (q.2.1 b).2.2.1 host).before args s = true) (hfin : (q.2.1 b).2.2.2 = false) (hkd : ∀ x ci ks, ia_at? Sh x = some (.inr (.inl (ci, ks))) → ci = a → (ia_kind ks b = some (.inr false) → ty0 a b = .int) ∧ (ia_kind ks b = some (.inr true) → ty0 a b = .long)) (hdg : decode cc pc = .ok (.putfield idx, 3)) (h : ia_pre C Z (ia_X p l e R s m args below meth c Q cells slots D cl A H0 Sh ad ca nL) (ia_f Sh (pc, .putfield idx, 3, a, b, w, v, ts) ls st hh)) : ia_X p l e R s m args below meth c Q cells slots D cl A H0 Sh ad ca nL (pc, ls, st, hh) := by
  simp only [ia_f] at h
  split at h <;> first | exact h.elim | skip
  · rename_i z x st'
    split at h <;> first | exact h.elim | skip
    rename_i ci ks hc
    cases hbe : Nat.beq ci a with
    | false => rw [hbe] at h; exact h.elim
    | true =>
      rw [hbe] at h
      have hci := ia_beq hbe
      subst hci
      simp only [cond_true] at h
      split at h <;> first | exact h.elim | skip
      rename_i hk
      intro H locs lc hP hD hS hR
      have hw := ia_w_at (ad := ad) (ca := ca) (h := hh) hc
      have hlen : b < (ia_slots ad hh x 0 ks).length := by
        have e : (ia_slots ad hh x 0 ks)[b]? = some (ia_slot ad hh x (0 + b) (.inr false)) := by rw [ia_slots_get, hk]; rfl
        exact (List.getElem?_eq_some_iff.mp e).1
      have e := ia_w_set (ad := ad) (ca := ca) (h := hh) (h' := (ia_uI hh.1 x b z, hh.2)) hc (fun y hy => ia_uI_ne hy) (fun y _ => rfl) (v := .inr (ci, (ia_slots ad hh x 0 ks).set b (.int z))) (by simp only [ia_cell, ia_slots_setI hk])
      exact va_putN hx hb hts (hCl _ _ hq).1 (ty0 ci) (hCl _ _ hq).2.1 (hCl _ _ hq).2.2 hown hK hP hD hS x hw hq b hbN hlink (fun _ h9 => h9) hfin (ty := .int) (v := .int z) (by rw [(hCl _ _ hq).2.1 b hbN, (hkd _ _ _ hc rfl).1 hk]) rfl rfl hlen hdg (fun H1 locs1 hP1 hD1 hS1 => h H1 locs1 lc (e ▸ hP1) (e ▸ hD1) hS1 hR)
  · rename_i z x st'
    split at h <;> first | exact h.elim | skip
    rename_i ci ks hc
    cases hbe : Nat.beq ci a with
    | false => rw [hbe] at h; exact h.elim
    | true =>
      rw [hbe] at h
      have hci := ia_beq hbe
      subst hci
      simp only [cond_true] at h
      split at h <;> first | exact h.elim | skip
      rename_i hk
      intro H locs lc hP hD hS hR
      have hw := ia_w_at (ad := ad) (ca := ca) (h := hh) hc
      have hlen : b < (ia_slots ad hh x 0 ks).length := by
        have e : (ia_slots ad hh x 0 ks)[b]? = some (ia_slot ad hh x (0 + b) (.inr true)) := by rw [ia_slots_get, hk]; rfl
        exact (List.getElem?_eq_some_iff.mp e).1
      have e := ia_w_set (ad := ad) (ca := ca) (h := hh) (h' := (hh.1, ia_uL hh.2 x b z)) hc (fun y _ => rfl) (fun y hy => ia_uL_ne hy) (v := .inr (ci, (ia_slots ad hh x 0 ks).set b (.long z))) (by simp only [ia_cell, ia_slots_setL hk])
      exact va_putN hx hb hts (hCl _ _ hq).1 (ty0 ci) (hCl _ _ hq).2.1 (hCl _ _ hq).2.2 hown hK hP hD hS x hw hq b hbN hlink (fun _ h9 => h9) hfin (ty := .long) (v := .long z) (by rw [(hCl _ _ hq).2.1 b hbN, (hkd _ _ _ hc rfl).2 hk]) rfl rfl hlen hdg (fun H1 locs1 hP1 hD1 hS1 => h H1 locs1 lc (e ▸ hP1) (e ▸ hD1) hS1 hR)
end IA2
end
section
/-! switches, calls, ends -/
def ia_tg (x : Int32) (d : Nat) : List (Int × Nat) → Nat
  | [] => d
  | (k, t) :: ts => if x = Int32.ofInt k then t else ia_tg x d ts
theorem ia_sw_tg {X : ia_S → Prop} {x : Int32} {d : Nat} {ls : ia_L} {st : List Value} {h : ia_H} : ∀ {ts : List (Int × Nat)}, ia_sw X x d ls st h ts → X (ia_tg x d ts, ls, st, h)
  | [], hx => hx
  | (k, t) :: ts, hx => by
    by_cases hk : x = Int32.ofInt k
    · rw [ia_tg, if_pos hk]; exact hx.1 hk
    · rw [ia_tg, if_neg hk]; exact ia_sw_tg (hx.2 hk)
def ia_ts (pc : Nat) : Int → List Int → List (Int × Nat)
  | _, [] => []
  | lo, o :: os => (lo, ((pc : Int) + o).toNat) :: ia_ts pc (lo + 1) os
theorem ia_key {x : Int32} {k : Int} (h1 : -2 ^ 31 ≤ k) (h2 : k < 2 ^ 31) : x = Int32.ofInt k ↔ x.toInt = k := by
  rw [← Int32.toInt_inj, Int32.toInt_ofInt_of_le h1 h2]
theorem ia_tg_ts {pc d : Nat} {x : Int32} : ∀ {os : List Int} {lo : Int}, (∀ o ∈ os, 0 ≤ (pc : Int) + o) → -2 ^ 31 ≤ lo → lo + os.length ≤ 2 ^ 31 →
    (x.toInt < lo ∨ lo + os.length ≤ x.toInt → ia_tg x d (ia_ts pc lo os) = d) ∧ (lo ≤ x.toInt → x.toInt < lo + os.length → ∃ off, os[(x.toInt - lo).toNat]? = some off ∧ (pc : Int) + off = (ia_tg x d (ia_ts pc lo os) : Nat))
  | [], lo, _, _, _ => ⟨fun _ => rfl, fun h1 h2 => by simp at h2; omega⟩
  | o :: os, lo, h0, h1, h2 => by
    simp only [List.length_cons, Int.natCast_add, Int.cast_ofNat_Int] at h2
    obtain ⟨i1, i2⟩ := ia_tg_ts (pc := pc) (d := d) (x := x) (os := os) (lo := lo + 1) (fun q hq => h0 q (List.mem_cons_of_mem _ hq)) (by omega) (by omega)
    have hk := ia_key (x := x) (k := lo) h1 (by omega)
    simp only [ia_ts, ia_tg, List.length_cons, Int.natCast_add, Int.cast_ofNat_Int]
    by_cases he : x.toInt = lo
    · rw [if_pos (hk.mpr he)]
      refine ⟨fun q => by omega, fun _ _ => ⟨o, by rw [he]; simp, ?_⟩⟩
      have := h0 o List.mem_cons_self
      omega
    · rw [if_neg (fun q => he (hk.mp q))]
      refine ⟨fun q => i1 (by omega), fun q1 q2 => ?_⟩
      obtain ⟨off, e1, e2⟩ := i2 (by omega) (by omega)
      refine ⟨off, ?_, e2⟩
      rw [show (x.toInt - lo).toNat = (x.toInt - (lo + 1)).toNat + 1 by omega, List.getElem?_cons_succ]
      exact e1
def ia_lt (pc : Nat) : List (Int × Int) → List (Int × Nat)
  | [] => []
  | (k, o) :: os => (k, ((pc : Int) + o).toNat) :: ia_lt pc os
theorem ia_tg_lt {pc d : Nat} {x : Int32} {dflt : Int} (hd : (pc : Int) + dflt = d) : ∀ {os : List (Int × Int)}, (∀ o ∈ os, 0 ≤ (pc : Int) + o.2 ∧ -2 ^ 31 ≤ o.1 ∧ o.1 < 2 ^ 31) → (pc : Int) + Op.lookupswitch.offset os dflt x.toInt = (ia_tg x d (ia_lt pc os) : Nat)
  | [], _ => hd
  | (k, o) :: os, h0 => by
    obtain ⟨a1, a2, a3⟩ := h0 (k, o) List.mem_cons_self
    have hk := ia_key (x := x) a2 a3
    rw [Op.lookupswitch.offset_cons, ia_lt, ia_tg]
    by_cases he : x.toInt = k
    · rw [if_pos (hk.mpr he), if_pos (by first | exact he | exact he.symm)]
      simp only at a1
      omega
    · rw [if_neg (fun q => he (hk.mp q)), if_neg (by first | exact he | exact fun q => he q.symm)]
      exact ia_tg_lt hd (fun q hq => h0 q (List.mem_cons_of_mem _ hq))
theorem ia_pop_spec : ∀ {n : Nat} {acc st as r : List Value}, ia_pop n acc st = some (as, r) → ∃ f : List Value, f.length = n ∧ st = f ++ r ∧ as = f.reverse ++ acc
  | 0, acc, st, as, r, h => by
    simp only [ia_pop] at h
    cases h
    exact ⟨[], rfl, rfl, rfl⟩
  | n + 1, acc, [], as, r, h => by cases h
  | n + 1, acc, v :: st, as, r, h => by
    obtain ⟨f, h1, h2, h3⟩ := ia_pop_spec (n := n) (acc := v :: acc) (st := st) h
    exact ⟨v :: f, by simp [h1], by rw [h2]; rfl, by rw [h3]; simp⟩
theorem ia_sum4 (ad : Nat → Nat) : ∀ (st : List Value), ((st.map (ia_v ad)).map fun v => v.category).sum ≤ 2 * st.length
  | [] => by simp
  | v :: st => by
    have := ia_sum4 ad st
    have h2 : (ia_v ad v).category ≤ 2 := by rcases lv_cat (ia_v ad v) with q | q <;> omega
    simp only [List.map_cons, List.sum_cons, List.length_cons]
    omega
section IA3
variable {p : Program} {l : Launch} {e : Env} {R : Room} {s : State} {m : MethodId} {args : Array Value} {below : List Frame} {meth : Method} {c : Code} {Q : State → Prop} {cells slots : Nat}
variable {cc : ByteArray} {D : va_G} {cl : List vw_C} {A : Nat → Prop} {tys : List (ClassId × FieldType)} {H0 : Heap} {Sh : List ia_C} {ad : Nat → Nat} {ca : Nat → ClassId} {nL : Nat}
variable {C : Nat → List Value → ia_H → Option Value → ia_H → Prop} {Z : Option Value → ia_H → Prop} {pc a b w : Nat} {v : Value} {ts : List (Int × Nat)} {ls : ia_L} {st : List Value} {hh : ia_H}
theorem ia_s_tableswitch (hx : p.tables.exec = Jvm.exec) (hb : c.code = cc) {dflt lo hi : Int} {offs : Array Int} {len : Nat} (ht : (pc : Int) + dflt = (a : Int)) (h0 : ∀ o ∈ offs.toList, 0 ≤ (pc : Int) + o) (h1 : -2 ^ 31 ≤ lo) (h2 : hi + 1 ≤ 2 ^ 31) (h3 : lo + offs.toList.length = hi + 1) (hts : ts = ia_ts pc lo offs.toList) (hdg : decode cc pc = .ok (.tableswitch dflt lo hi offs, len)) (h : ia_pre C Z (ia_X p l e R s m args below meth c Q cells slots D cl A H0 Sh ad ca nL) (ia_f Sh (pc, .tableswitch dflt lo hi offs, len, a, b, w, v, ts) ls st hh)) : ia_X p l e R s m args below meth c Q cells slots D cl A H0 Sh ad ca nL (pc, ls, st, hh) := by
  simp only [ia_f] at h
  split at h <;> first | exact h.elim | skip
  rename_i x st'
  intro H locs lc hP hD hS hR
  have hX := ia_sw_tg h H locs lc hP hD hS hR
  obtain ⟨g1, g2⟩ := ia_tg_ts (pc := pc) (d := a) (x := x) h0 h1 (by omega)
  by_cases hr : x.toInt < lo ∨ hi < x.toInt
  · rw [hts, g1 (by omega)] at hX
    exact lv_tableOut hx hb hdg hr ht hX
  · obtain ⟨off, e1, e2⟩ := g2 (by omega) (by omega)
    rw [hts] at hX
    exact lv_tableIn hx hb hdg (by omega) (by omega) (off := off) (by rw [← Array.getElem?_toList]; exact e1) e2 hX
theorem ia_s_lookupswitch (hx : p.tables.exec = Jvm.exec) (hb : c.code = cc) {dflt : Int} {ps : Array (Int × Int)} {len : Nat} (ht : (pc : Int) + dflt = (a : Int)) (hp : (ps.toList.zip (ps.toList.drop 1)).all (fun (a, next) => a.1 < next.1) = true) (h0 : ∀ o ∈ ps.toList, 0 ≤ (pc : Int) + o.2 ∧ -2 ^ 31 ≤ o.1 ∧ o.1 < 2 ^ 31) (hts : ts = ia_lt pc ps.toList) (hdg : decode cc pc = .ok (.lookupswitch dflt ps, len)) (h : ia_pre C Z (ia_X p l e R s m args below meth c Q cells slots D cl A H0 Sh ad ca nL) (ia_f Sh (pc, .lookupswitch dflt ps, len, a, b, w, v, ts) ls st hh)) : ia_X p l e R s m args below meth c Q cells slots D cl A H0 Sh ad ca nL (pc, ls, st, hh) := by
  simp only [ia_f] at h
  split at h <;> first | exact h.elim | skip
  rename_i x st'
  intro H locs lc hP hD hS hR
  have hX := ia_sw_tg h H locs lc hP hD hS hR
  rw [hts] at hX
  exact lv_lookup hx hb hdg hp rfl (ia_tg_lt ht h0) hX
def ia_Wd (D : va_G) (cl : List vw_C) (tys : List (ClassId × FieldType)) (Sh : List ia_C) (ad : Nat → Nat) (ca : Nat → ClassId) (h : ia_H) (t : State) : Prop := va_P D cl (ia_w ad ca h 0 Sh) t.heap ∧ va_K D cl tys t
def ia_Post (D : va_G) (cl : List vw_C) (tys : List (ClassId × FieldType)) (Sh : List ia_C) (ad : Nat → Nat) (ca : Nat → ClassId) (A : Nat → Prop) (r : Option Value) (h : ia_H) : Array Value → State → Outcome → State → Prop := match r with
  | none => va_Qv (fun _ : Unit => True) (fun _ t => ia_Wd D cl tys Sh ad ca h t) A
  | some (.int x) => va_Qi (fun y (_ : Unit) => y = x) (fun _ t => ia_Wd D cl tys Sh ad ca h t) A
  | some (.long x) => va_Ql (fun y (_ : Unit) => y = x) (fun _ t => ia_Wd D cl tys Sh ad ca h t) A
  | some (.double x) => va_Qd (fun y (_ : Unit) => y = x) (fun _ t => ia_Wd D cl tys Sh ad ca h t) A
  | _ => fun _ _ _ _ => False
/-- links to a nest mate's private fields: not among the words that a contract may pass on, so they stand in its start -/
abbrev ia_N : Type := String × Nat × String × String × String × String
abbrev ia_nw (q : ia_N) : Cond := .fieldLinkNest q.1 q.2.1 q.2.2.1 q.2.2.2.1 q.2.2.2.2.1 q.2.2.2.2.2
def ia_Pre (Ns : List ia_N) (D : va_G) (cl : List vw_C) (tys : List (ClassId × FieldType)) (Sh : List ia_C) (ad : Nat → Nat) (ca : Nat → ClassId) (sz : Nat) (as : List Value) (h : ia_H) : Array Value → State → Prop := va_Pc (as.map (ia_v ad)) (fun U => U.heap.size = sz ∧ va_P D cl (ia_w ad ca h 0 Sh) U.heap ∧ va_K D cl tys U ∧ va_D (fun _ => True) (ia_w ad ca h 0 Sh) ∧ ∀ w ∈ Ns, va_Nw (ia_nw w) U)
abbrev ia_rm (M : ia_M) : Room := { frames := M.2.2.2.2.2.2.2.2.1, cells := 0, slots := 0, locals := M.2.2.2.2.2.2.2.2.2 }
abbrev ia_ws (Ts : List Cond) (M : ia_M) : List Cond := Cond.code M.2.1 M.2.2.1 M.2.2.2.1 M.2.2.2.2.1 :: Ts
/-- a method's contract out of what the pure machine says of it -/
def ia_Mt (l : Launch) (Ts : List Cond) (Ns : List ia_N) (MT : List ia_M) (D : va_G) (cl : List vw_C) (tys : List (ClassId × FieldType)) (Sh : List ia_C) (ad : Nat → Nat) (ca : Nat → ClassId) (y : Nat) (as : List Value) (h : ia_H) (r : Option Value) (h' : ia_H) : Prop :=
  ∀ M : ia_M, ia_meth MT y = some M → ∀ sz : Nat, Met l M.2.1 (ia_ws Ts M) (ia_rm M) (ia_Pre Ns D cl tys Sh ad ca sz as h) (ia_Post D cl tys Sh ad ca (va_A (ia_w ad ca h 0 Sh) sz) r h') 0 0 (va_A (ia_w ad ca h 0 Sh) sz)
theorem ia_blind {Ns : List ia_N} {sz : Nat} {as : List Value} {h : ia_H} : FrameBlind (ia_Pre Ns D cl tys Sh ad ca sz as h) := fun a U g mk q => by
  obtain ⟨q0, q1, qP, qK, qD, qN⟩ := q
  exact ⟨q0, q1, qP, va_K.moved (u := U) (U := U.calling g mk a) (Vm.Alike.refl U.vm) qK, qD, fun w hw => va_Nw.same rfl rfl (qN w hw)⟩
theorem ia_free {H : Heap} {locs : List Loc} (hD : va_D A (ia_w ad ca hh 0 Sh)) (hS : va_S A H0 H locs) (hA : ∀ q, H0.size ≤ q → A q) : ∀ q, va_A (ia_w ad ca hh 0 Sh) H.size q → A q := by
  intro q hq
  rcases hq with ⟨k, e, hk⟩ | hq
  · exact hD.2 k _ hk
  · exact hA q (Nat.le_trans hS.1 hq)
/-- behind a call -/
theorem ia_back {r : Option Value} {h' : ia_H} {rest : List Value} {H : Heap} {locs : List Loc} {lc : Array Slot} {st0 : List Value} {av : Array Value} (hD : va_D A (ia_w ad ca hh 0 Sh)) (hS : va_S A H0 H locs) (hA : ∀ q, H0.size ≤ q → A q) (hR : ia_R ad nL lc ls)
    (hrun : va_Run p l e R s m args below meth c H locs cells slots 0 0 (F0 m pc lc st0) (rest.map (ia_v ad)) (ia_Post D cl tys Sh ad ca (va_A (ia_w ad ca hh 0 Sh) H.size) r h' av) (va_A (ia_w ad ca hh 0 Sh) H.size))
    (kk : ia_X p l e R s m args below meth c Q cells slots D cl A H0 Sh ad ca nL (pc + 3, ls, r.toList ++ rest, h')) : W p l e R s m args below meth c H locs cells slots Q (F0 m pc lc st0) := by
  have hF := ia_free hD hS hA
  match r, hrun, kk with
  | none, hrun, kk =>
    refine va_callv (a := av) hrun hS (fun q _ h => hF q h) hF (fun u t H1 locs1 ht hvm hw hB hz1 hk1 hS1 => ?_)
    exact kk H1 locs1 lc (ht ▸ hB.1) (ia_D_congr hD) hS1 hR
  | some (.int x), hrun, kk =>
    refine va_calli (a := av) hrun hS (fun q _ h => hF q h) hF (fun y u t H1 locs1 ht hvm hw hB hz1 hk1 hS1 => ?_)
    subst hw
    exact kk H1 locs1 lc (ht ▸ hB.1) (ia_D_congr hD) hS1 hR
  | some (.long x), hrun, kk =>
    refine va_calll (a := av) hrun hS (fun q _ h => hF q h) hF (fun y u t H1 locs1 ht hvm hw hB hz1 hk1 hS1 => ?_)
    subst hw
    exact kk H1 locs1 lc (ht ▸ hB.1) (ia_D_congr hD) hS1 hR
  | some (.double x), hrun, kk =>
    refine va_calld (a := av) hrun hS (fun q _ h => hF q h) hF (fun y u t H1 locs1 ht hvm hw hB hz1 hk1 hS1 => ?_)
    subst hw
    exact kk H1 locs1 lc (ht ▸ hB.1) (ia_D_congr hD) hS1 hR
  | some (.float x), hrun, _ =>
    intro T hT X
    obtain ⟨v, st₀, t, T', L, h0, X', hL, e1, e2, hq, st⟩ := hrun T hT X
    exact hq.elim
  | some (.ref x), hrun, _ =>
    intro T hT X
    obtain ⟨v, st₀, t, T', L, h0, X', hL, e1, e2, hq, st⟩ := hrun T hT X
    exact hq.elim
  | some (.retAddr x), hrun, _ =>
    intro T hT X
    obtain ⟨v, st₀, t, T', L, h0, X', hL, e1, e2, hq, st⟩ := hrun T hT X
    exact hq.elim
  | some .null, hrun, _ =>
    intro T hT X
    obtain ⟨v, st₀, t, T', L, h0, X', hL, e1, e2, hq, st⟩ := hrun T hT X
    exact hq.elim
theorem ia_goodIn {Ts ws : List Cond} (hG : Ts.all goodWord = true) (h : ∀ w ∈ ws, w ∈ Ts) : GoodIn Ts ws := fun w hw => ⟨h w hw, good_of_word (List.all_eq_true.mp hG w (h w hw))⟩
theorem ia_s_invokevirtual (hx : p.tables.exec = Jvm.exec) (hb : c.code = cc) {own : String} {idx : Nat} {Ts : List Cond} {Ns : List ia_N} {MT : List ia_M} {M : ia_M} (hNs : ∀ w ∈ Ns, va_Nw (ia_nw w) s) (hml : c.maxLocals = nL) (hts : ∀ w ∈ Ts, w.before args s = true) (hown : s.vm.findClass own = some m.cls) (hG : Ts.all goodWord = true) (hK : va_K D cl tys s) (hA : ∀ q, H0.size ≤ q → A q) (hcell : cells ≤ R.cells ∧ slots ≤ R.slots)
    (hcode : Cond.code M.2.1 M.2.2.1 M.2.2.2.1 M.2.2.2.2.1 ∈ Ts) (hini : Cond.initialized M.2.1.cls ∈ Ts) (hnm : M.2.1.cls ≠ "java/lang/invoke/MethodHandle" ∧ M.2.1.cls ≠ "java/lang/invoke/VarHandle") (hpar : (parseMethodDescriptor M.2.1.desc).map (fun d => d.parameters.length) = some b) (hlink : Cond.methodLink own idx M.2.1 ∈ Ts) (hroom : (ia_rm M).frames + 1 ≤ R.frames ∧ 8 + (M.2.2.2.1 + 11) + (ia_rm M).locals ≤ R.locals) (hM : ia_meth MT a = some M)
    (hin : Cond.instanceMethod M.2.1 ∈ Ts) (hsel : Cond.selects M.2.1.cls M.2.1 M.2.1 ∈ Ts) {cj : Nat} {q : vw_C} (hq : cl[cj]? = some q) (hqn : q.1 = M.2.1.cls) (hdg : decode cc pc = .ok (.invokevirtual idx, 3)) (h : ia_pre (ia_Mt l Ts Ns MT D cl tys Sh ad ca) Z (ia_X p l e R s m args below meth c Q cells slots D cl A H0 Sh ad ca nL) (ia_f Sh (pc, .invokevirtual idx, 3, a, b, w, .ref cj, ts) ls st hh)) : ia_X p l e R s m args below meth c Q cells slots D cl A H0 Sh ad ca nL (pc, ls, st, hh) := by
  simp only [ia_f] at h
  split at h <;> first | exact h.elim | skip
  rename_i as x st' hpop
  split at h <;> first | exact h.elim | skip
  rename_i ci ks hc
  cases hbe : Nat.beq ci cj with
  | false => rw [hbe] at h; exact h.elim
  | true =>
    rw [hbe] at h
    have hci := ia_beq hbe
    subst hci
    simp only [cond_true] at h
    cases hbl : Nat.ble st'.length 4 with
    | false => rw [hbl] at h; exact h.elim
    | true =>
      rw [hbl] at h
      simp only [cond_true] at h
      have hlen := Nat.le_of_ble_eq_true hbl
      obtain ⟨⟨r, h'⟩, hC, hX⟩ := h
      intro H locs lc hP hD hS hR
      obtain ⟨f, f1, f2, f3⟩ := ia_pop_spec hpop
      rw [List.append_nil] at f3
      have hMet := hC M hM H.size
      have cw : CallW R s args own M.2.1.cls idx M.2.1 M.2.2.1 M.2.2.2.1 M.2.2.2.2.1 (ia_ws Ts M) (ia_rm M) 0 0 b := cwV b hts (ia_goodIn hG (fun z hz => by
        rcases List.mem_append.mp hz with hz | hz
        · rcases List.mem_cons.mp hz with rfl | hz
          · exact hlink
          rcases List.mem_cons.mp hz with rfl | hz
          · exact hin
          rcases List.mem_cons.mp hz with rfl | hz
          · exact hsel
          rcases List.mem_cons.mp hz with rfl | hz
          · exact hini
          cases hz
        · rcases List.mem_cons.mp hz with rfl | hz
          · exact hcode
          · exact hz)) rfl rfl rfl ⟨rfl, hnm.1, hnm.2, hpar⟩ hroom
      have hrec := va_recv hK hP hq (ia_w_at hc)
      rw [hqn] at hrec
      have hsum := ia_sum4 ad st'
      refine ia_back hD hS hA hR (va_runV (As := as.map (ia_v ad)) (rest := st'.map (ia_v ad)) (b := ad x) ⟨hx, hb, hml, hown, hts⟩ hMet cw ⟨ia_blind, hrec, fun U hU hW => ⟨rfl, by rw [hU], by rw [hU]; exact hP, va_K.moved hW.alike hK, hD.weaken (fun _ _ _ _ => trivial), fun w hw => va_Nw.warmF hW (hNs w hw)⟩⟩ rfl (by rw [f3]; simp [f1]) hR.2.1 (by show List.map _ _ = _; rw [f2, f3]; simp [ia_v]) (lv_room (by omega)) hdg ⟨hcell.1, hcell.2⟩) hX
theorem ia_s_invokestatic (hx : p.tables.exec = Jvm.exec) (hb : c.code = cc) {own : String} {idx : Nat} {Ts : List Cond} {Ns : List ia_N} {MT : List ia_M} {M : ia_M} (hNs : ∀ w ∈ Ns, va_Nw (ia_nw w) s) (hml : c.maxLocals = nL) (hts : ∀ w ∈ Ts, w.before args s = true) (hown : s.vm.findClass own = some m.cls) (hG : Ts.all goodWord = true) (hK : va_K D cl tys s) (hA : ∀ q, H0.size ≤ q → A q) (hcell : cells ≤ R.cells ∧ slots ≤ R.slots)
    (hcode : Cond.code M.2.1 M.2.2.1 M.2.2.2.1 M.2.2.2.2.1 ∈ Ts) (hini : Cond.initialized M.2.1.cls ∈ Ts) (hnm : M.2.1.cls ≠ "java/lang/invoke/MethodHandle" ∧ M.2.1.cls ≠ "java/lang/invoke/VarHandle") (hpar : (parseMethodDescriptor M.2.1.desc).map (fun d => d.parameters.length) = some b) (hlink : Cond.methodLink own idx M.2.1 ∈ Ts) (hroom : (ia_rm M).frames + 1 ≤ R.frames ∧ 8 + (M.2.2.2.1 + 11) + (ia_rm M).locals ≤ R.locals) (hM : ia_meth MT a = some M)
    (hstat : Cond.static M.2.1 ∈ Ts) (hdg : decode cc pc = .ok (.invokestatic idx, 3)) (h : ia_pre (ia_Mt l Ts Ns MT D cl tys Sh ad ca) Z (ia_X p l e R s m args below meth c Q cells slots D cl A H0 Sh ad ca nL) (ia_f Sh (pc, .invokestatic idx, 3, a + 6, b, w, v, ts) ls st hh)) : ia_X p l e R s m args below meth c Q cells slots D cl A H0 Sh ad ca nL (pc, ls, st, hh) := by
  simp only [ia_f] at h
  split at h <;> first | exact h.elim | skip
  rename_i as st' hpop
  cases hbl : Nat.ble st'.length 4 with
  | false => rw [hbl] at h; exact h.elim
  | true =>
    rw [hbl] at h
    simp only [cond_true] at h
    have hlen := Nat.le_of_ble_eq_true hbl
    obtain ⟨⟨r, h'⟩, hC, hX⟩ := h
    intro H locs lc hP hD hS hR
    obtain ⟨f, f1, f2, f3⟩ := ia_pop_spec hpop
    rw [List.append_nil] at f3
    have hMet := hC M hM H.size
    have hGi : GoodIn Ts (ia_ws Ts M) := ia_goodIn hG (fun z hz => by
        rcases List.mem_cons.mp hz with rfl | hz
        · exact hcode
        · exact hz)
    have cw : CallB R s args own idx M.2.1 M.2.2.1 M.2.2.2.1 M.2.2.2.2.1 (ia_ws Ts M) (ia_rm M) 0 0 b := callB_of b hts hGi rfl rfl rfl (hts _ hini) (hts _ hlink) ⟨hnm.1, hnm.2, hpar⟩ hroom
    have hsum := ia_sum4 ad st'
    refine ia_back hD hS hA hR (va_runS (As := as.map (ia_v ad)) (rest := st'.map (ia_v ad)) ⟨hx, hb, hml, hown, hts⟩ hMet ⟨cw, hts _ hstat⟩ ⟨ia_blind, fun U hU hW => ⟨rfl, by rw [hU], by rw [hU]; exact hP, va_K.moved hW.alike hK, hD.weaken (fun _ _ _ _ => trivial), fun w hw => va_Nw.warmF hW (hNs w hw)⟩⟩ rfl (by rw [f3]; simp [f1]) hR.2.1 (by show List.map _ _ = _; rw [f2, f3]; simp) (lv_room (by omega)) hdg ⟨hcell.1, hcell.2⟩) hX
theorem ia_s_d2raw (hx : p.tables.exec = Jvm.exec) (hb : c.code = cc) {own : String} {idx : Nat} (hml : c.maxLocals = nL) (hown : s.vm.findClass own = some m.cls) (hlink : (Cond.methodLink own idx ⟨"java/lang/Double", "doubleToRawLongBits", "(D)J"⟩).before args s = true) (hnat : (Cond.native ⟨"java/lang/Double", "doubleToRawLongBits", "(D)J"⟩).before args s = true) (hstat : (Cond.static ⟨"java/lang/Double", "doubleToRawLongBits", "(D)J"⟩).before args s = true) (hinit : (Cond.initialized "java/lang/Double").before args s = true) (hframes : 1 ≤ R.frames) (hlocals : 8 + 15 ≤ R.locals)
    (hdg : decode cc pc = .ok (.invokestatic idx, 3)) (h : ia_pre C Z (ia_X p l e R s m args below meth c Q cells slots D cl A H0 Sh ad ca nL) (ia_f Sh (pc, .invokestatic idx, 3, 0, b, w, v, ts) ls st hh)) : ia_X p l e R s m args below meth c Q cells slots D cl A H0 Sh ad ca nL (pc, ls, st, hh) := by
  simp only [ia_f] at h
  split at h <;> first | exact h.elim | skip
  rename_i x st'
  cases hbl : Nat.ble st'.length 4 with
  | false => rw [hbl] at h; exact h.elim
  | true =>
    rw [hbl] at h
    simp only [cond_true] at h
    have hlen := Nat.le_of_ble_eq_true hbl
    have hsum := ia_sum4 ad st'
    intro H locs lc hP hD hS hR
    exact vn_d2l hx hb (by rw [hml, hR.2.1]) hown hlink hnat hstat hinit hframes (by omega) hdg (h H locs lc hP hD hS hR)
theorem ia_s_arraycopy (hx : p.tables.exec = Jvm.exec) (hb : c.code = cc) {own : String} {idx : Nat} (hml : c.maxLocals = nL) (hown : s.vm.findClass own = some m.cls) (hK : va_K D cl tys s) (hT : ia_T Sh ca tys) (hlink : (Cond.methodLink own idx arraycopyName).before args s = true) (hnat : (Cond.native arraycopyName).before args s = true) (hstat : (Cond.static arraycopyName).before args s = true) (hini : (Cond.initialized "java/lang/System").before args s = true) (hframes : 1 ≤ R.frames) (hlocals : 8 + (nativeFrameWords "java/lang/System" "arraycopy" 5 + 11) ≤ R.locals)
    (hdg : decode cc pc = .ok (.invokestatic idx, 3)) (h : ia_pre C Z (ia_X p l e R s m args below meth c Q cells slots D cl A H0 Sh ad ca nL) (ia_f Sh (pc, .invokestatic idx, 3, 1, b, w, v, ts) ls st hh)) : ia_X p l e R s m args below meth c Q cells slots D cl A H0 Sh ad ca nL (pc, ls, st, hh) := by
  simp only [ia_f] at h
  split at h <;> first | exact h.elim | skip
  rename_i n dp y sp x st'
  split at h <;> first | exact h.elim | skip
  · rename_i n0 hc0
    split at h <;> first | exact h.elim | skip
    rename_i n1 hc1
    cases hbl : Nat.ble st'.length 4 with
    | false => rw [hbl] at h; exact h.elim
    | true =>
      rw [hbl] at h
      simp only [cond_true] at h
      have hlen := Nat.le_of_ble_eq_true hbl
      have hsum := ia_sum4 ad st'
      obtain ⟨t0, ht0⟩ := hT.1 _ _ _ hc0
      obtain ⟨t1, ht1⟩ := hT.1 _ _ _ hc1
      intro H locs lc hP hD hS hR
      have e := ia_w_set (ad := ad) (ca := ca) (h := hh) (h' := (ia_cpI hh.1 x y sp.toNatClampNeg dp.toNatClampNeg n.toNatClampNeg, hh.2)) hc1 (fun z hz => if_neg hz) (fun z _ => rfl) (v := .inl (ca y, n1, .inl (va_cpy (hh.1 x) (hh.1 y) sp.toNatClampNeg dp.toNatClampNeg n.toNatClampNeg))) (by simp only [ia_cell, ia_cpI, if_true])
      obtain ⟨⟨g1, g2, g3, g4, g5⟩, hX⟩ := h
      exact va_copyi hx hb (by rw [hml, hR.2.1]) hown hlink hnat hstat hini hK hP hD hS x y t0 t1 (ia_w_at hc0) (ia_w_at hc1) ht0 ht1 rfl g1 g2 g3 g4 g5 (fun i hi => rfl) hframes (by omega) hdg (fun H1 locs1 hP1 hD1 hS1 => hX H1 locs1 lc (e ▸ hP1) (e ▸ hD1) hS1 hR)
  · rename_i n0 hc0
    split at h <;> first | exact h.elim | skip
    rename_i n1 hc1
    cases hbl : Nat.ble st'.length 4 with
    | false => rw [hbl] at h; exact h.elim
    | true =>
      rw [hbl] at h
      simp only [cond_true] at h
      have hlen := Nat.le_of_ble_eq_true hbl
      have hsum := ia_sum4 ad st'
      obtain ⟨t0, ht0⟩ := hT.1 _ _ _ hc0
      obtain ⟨t1, ht1⟩ := hT.1 _ _ _ hc1
      intro H locs lc hP hD hS hR
      have e := ia_w_set (ad := ad) (ca := ca) (h := hh) (h' := (ia_cpI hh.1 x y sp.toNatClampNeg dp.toNatClampNeg n.toNatClampNeg, hh.2)) hc1 (fun z hz => if_neg hz) (fun z _ => rfl) (v := .inl (ca y, n1, .inl (va_cpy (hh.1 x) (hh.1 y) sp.toNatClampNeg dp.toNatClampNeg n.toNatClampNeg))) (by simp only [ia_cell, ia_cpI, if_true])
      obtain ⟨⟨g1, g2, g3, g4, g5, g6⟩, hX⟩ := h
      exact va_copyi hx hb (by rw [hml, hR.2.1]) hown hlink hnat hstat hini hK hP hD hS x y t0 t1 (ia_w_at hc0) (ia_w_at hc1) ht0 ht1 rfl g1 g2 g3 g4 g5 g6 hframes (by omega) hdg (fun H1 locs1 hP1 hD1 hS1 => hX H1 locs1 lc (e ▸ hP1) (e ▸ hD1) hS1 hR)
theorem ia_s_max_long (hx : p.tables.exec = Jvm.exec) (hb : c.code = cc) {own : String} {idx : Nat} (hml : c.maxLocals = nL) (hown : s.vm.findClass own = some m.cls) (hlink : (Cond.methodLink own idx Lib.MathLoose.max_long.x).before args s = true) (hcode : (Cond.code Lib.MathLoose.max_long.x Lib.MathLoose.max_long.code 4 (some .long)).before args s = true) (hstat : (Cond.static Lib.MathLoose.max_long.x).before args s = true) (hinit : (Cond.initialized "java/lang/Math").before args s = true) (hframes : 1 ≤ R.frames) (hlocals : 8 + 15 ≤ R.locals) (hcell : cells ≤ R.cells ∧ slots ≤ R.slots)
    (hdg : decode cc pc = .ok (.invokestatic idx, 3)) (h : ia_pre C Z (ia_X p l e R s m args below meth c Q cells slots D cl A H0 Sh ad ca nL) (ia_f Sh (pc, .invokestatic idx, 3, 2, b, w, v, ts) ls st hh)) : ia_X p l e R s m args below meth c Q cells slots D cl A H0 Sh ad ca nL (pc, ls, st, hh) := by
  simp only [ia_f] at h
  split at h <;> first | exact h.elim | skip
  rename_i st'
  cases hbl : Nat.ble st'.length 4 with
  | false => rw [hbl] at h; exact h.elim
  | true =>
    rw [hbl] at h
    simp only [cond_true] at h
    have hlen := Nat.le_of_ble_eq_true hbl
    have hsum := ia_sum4 ad st'
    intro H locs lc hP hD hS hR
    exact va_mmax_long hx hb (by rw [hml, hR.2.1]) hown hlink hstat hinit hcode hframes (by omega) hcell.1 hcell.2 hdg (h H locs lc hP hD hS hR)
theorem ia_s_min_long (hx : p.tables.exec = Jvm.exec) (hb : c.code = cc) {own : String} {idx : Nat} (hml : c.maxLocals = nL) (hown : s.vm.findClass own = some m.cls) (hlink : (Cond.methodLink own idx Lib.MathLoose.min_long.x).before args s = true) (hcode : (Cond.code Lib.MathLoose.min_long.x Lib.MathLoose.min_long.code 4 (some .long)).before args s = true) (hstat : (Cond.static Lib.MathLoose.min_long.x).before args s = true) (hinit : (Cond.initialized "java/lang/Math").before args s = true) (hframes : 1 ≤ R.frames) (hlocals : 8 + 15 ≤ R.locals) (hcell : cells ≤ R.cells ∧ slots ≤ R.slots)
    (hdg : decode cc pc = .ok (.invokestatic idx, 3)) (h : ia_pre C Z (ia_X p l e R s m args below meth c Q cells slots D cl A H0 Sh ad ca nL) (ia_f Sh (pc, .invokestatic idx, 3, 3, b, w, v, ts) ls st hh)) : ia_X p l e R s m args below meth c Q cells slots D cl A H0 Sh ad ca nL (pc, ls, st, hh) := by
  simp only [ia_f] at h
  split at h <;> first | exact h.elim | skip
  rename_i st'
  cases hbl : Nat.ble st'.length 4 with
  | false => rw [hbl] at h; exact h.elim
  | true =>
    rw [hbl] at h
    simp only [cond_true] at h
    have hlen := Nat.le_of_ble_eq_true hbl
    have hsum := ia_sum4 ad st'
    intro H locs lc hP hD hS hR
    exact va_mmin_long hx hb (by rw [hml, hR.2.1]) hown hlink hstat hinit hcode hframes (by omega) hcell.1 hcell.2 hdg (h H locs lc hP hD hS hR)
theorem ia_s_abs_long (hx : p.tables.exec = Jvm.exec) (hb : c.code = cc) {own : String} {idx : Nat} (hml : c.maxLocals = nL) (hown : s.vm.findClass own = some m.cls) (hlink : (Cond.methodLink own idx Lib.MathLoose.abs_long.x).before args s = true) (hcode : (Cond.code Lib.MathLoose.abs_long.x Lib.MathLoose.abs_long.code 2 (some .long)).before args s = true) (hstat : (Cond.static Lib.MathLoose.abs_long.x).before args s = true) (hinit : (Cond.initialized "java/lang/Math").before args s = true) (hframes : 1 ≤ R.frames) (hlocals : 8 + 15 ≤ R.locals) (hcell : cells ≤ R.cells ∧ slots ≤ R.slots)
    (hdg : decode cc pc = .ok (.invokestatic idx, 3)) (h : ia_pre C Z (ia_X p l e R s m args below meth c Q cells slots D cl A H0 Sh ad ca nL) (ia_f Sh (pc, .invokestatic idx, 3, 4, b, w, v, ts) ls st hh)) : ia_X p l e R s m args below meth c Q cells slots D cl A H0 Sh ad ca nL (pc, ls, st, hh) := by
  simp only [ia_f] at h
  split at h <;> first | exact h.elim | skip
  rename_i st'
  cases hbl : Nat.ble st'.length 4 with
  | false => rw [hbl] at h; exact h.elim
  | true =>
    rw [hbl] at h
    simp only [cond_true] at h
    have hlen := Nat.le_of_ble_eq_true hbl
    have hsum := ia_sum4 ad st'
    intro H locs lc hP hD hS hR
    exact va_mabs_long hx hb (by rw [hml, hR.2.1]) hown hlink hstat hinit hcode hframes (by omega) hcell.1 hcell.2 hdg (h H locs lc hP hD hS hR)
theorem ia_s_min_int (hx : p.tables.exec = Jvm.exec) (hb : c.code = cc) {own : String} {idx : Nat} (hml : c.maxLocals = nL) (hown : s.vm.findClass own = some m.cls) (hlink : (Cond.methodLink own idx Lib.Math.min.name).before args s = true) (hcode : (Cond.code Lib.Math.min.name Lib.Math.min.code 2 (some .int)).before args s = true) (hstat : (Cond.static Lib.Math.min.name).before args s = true) (hinit : (Cond.initialized "java/lang/Math").before args s = true) (hframes : 1 ≤ R.frames) (hlocals : 8 + 15 ≤ R.locals) (hcell : cells ≤ R.cells ∧ slots ≤ R.slots)
    (hdg : decode cc pc = .ok (.invokestatic idx, 3)) (h : ia_pre C Z (ia_X p l e R s m args below meth c Q cells slots D cl A H0 Sh ad ca nL) (ia_f Sh (pc, .invokestatic idx, 3, 5, b, w, v, ts) ls st hh)) : ia_X p l e R s m args below meth c Q cells slots D cl A H0 Sh ad ca nL (pc, ls, st, hh) := by
  simp only [ia_f] at h
  split at h <;> first | exact h.elim | skip
  rename_i st'
  cases hbl : Nat.ble st'.length 4 with
  | false => rw [hbl] at h; exact h.elim
  | true =>
    rw [hbl] at h
    simp only [cond_true] at h
    have hlen := Nat.le_of_ble_eq_true hbl
    have hsum := ia_sum4 ad st'
    intro H locs lc hP hD hS hR
    exact va_mmin hx hb (by rw [hml, hR.2.1]) hown hlink hstat hinit hcode hframes (by omega) hcell.1 hcell.2 hdg (h H locs lc hP hD hS hR)
theorem ia_s_ireturn {r0 : Option Value} {h1 : ia_H} (hx : p.tables.exec = Jvm.exec) (hb : c.code = cc) (hlocks : meth.locks = false) (hK : va_K D cl tys s) (hr : meth.sig.returnType = some .int) (hdg : decode cc pc = .ok (.ireturn, 1)) (h : ia_pre C (fun r1 h2 => r1 = r0 ∧ h2 = h1) (ia_X p l e R s m args below meth c (MQ below (ia_Post D cl tys Sh ad ca A r0 h1) args s cells slots A) cells slots D cl A s.heap Sh ad ca nL) (ia_f Sh (pc, .ireturn, 1, 0, b, w, v, ts) ls st hh)) : ia_X p l e R s m args below meth c (MQ below (ia_Post D cl tys Sh ad ca A r0 h1) args s cells slots A) cells slots D cl A s.heap Sh ad ca nL (pc, ls, st, hh) := by
  simp only [ia_f] at h
  split at h <;> first | exact h.elim | skip
  rename_i x
  obtain ⟨rfl, rfl⟩ := h
  intro H locs lc hP hD hS hR
  exact W.iret (v := x) hx hb hr (fun t ht hW => ⟨⟨x, (), rfl, rfl, ⟨by rw [ht]; exact hP, va_K.moved hW.alike hK⟩⟩, hS.F ht⟩) hS.2.2 hdg
theorem ia_s_zreturn {r0 : Option Value} {h1 : ia_H} (hx : p.tables.exec = Jvm.exec) (hb : c.code = cc) (hlocks : meth.locks = false) (hK : va_K D cl tys s) (hr : meth.sig.returnType = some .boolean) (hdg : decode cc pc = .ok (.ireturn, 1)) (h : ia_pre C (fun r1 h2 => r1 = r0 ∧ h2 = h1) (ia_X p l e R s m args below meth c (MQ below (ia_Post D cl tys Sh ad ca A r0 h1) args s cells slots A) cells slots D cl A s.heap Sh ad ca nL) (ia_f Sh (pc, .ireturn, 1, 1, b, w, v, ts) ls st hh)) : ia_X p l e R s m args below meth c (MQ below (ia_Post D cl tys Sh ad ca A r0 h1) args s cells slots A) cells slots D cl A s.heap Sh ad ca nL (pc, ls, st, hh) := by
  simp only [ia_f] at h
  split at h <;> first | exact h.elim | skip
  rename_i x
  obtain ⟨h01, rfl, rfl⟩ := h
  intro H locs lc hP hD hS hR
  exact W.zret (v := x) hx hb hr (by rcases h01 with rfl | rfl <;> rfl) (fun t ht hW => ⟨⟨x, (), rfl, rfl, ⟨by rw [ht]; exact hP, va_K.moved hW.alike hK⟩⟩, hS.F ht⟩) hS.2.2 hdg
theorem ia_s_lreturn {r0 : Option Value} {h1 : ia_H} (hx : p.tables.exec = Jvm.exec) (hb : c.code = cc) (hlocks : meth.locks = false) (hK : va_K D cl tys s) (hr : meth.sig.returnType = some .long) (hdg : decode cc pc = .ok (.lreturn, 1)) (h : ia_pre C (fun r1 h2 => r1 = r0 ∧ h2 = h1) (ia_X p l e R s m args below meth c (MQ below (ia_Post D cl tys Sh ad ca A r0 h1) args s cells slots A) cells slots D cl A s.heap Sh ad ca nL) (ia_f Sh (pc, .lreturn, 1, a, b, w, v, ts) ls st hh)) : ia_X p l e R s m args below meth c (MQ below (ia_Post D cl tys Sh ad ca A r0 h1) args s cells slots A) cells slots D cl A s.heap Sh ad ca nL (pc, ls, st, hh) := by
  simp only [ia_f] at h
  split at h <;> first | exact h.elim | skip
  rename_i x
  obtain ⟨rfl, rfl⟩ := h
  intro H locs lc hP hD hS hR
  exact W.lret (v := x) hx hb hr (fun t ht hW => ⟨⟨x, (), rfl, rfl, ⟨by rw [ht]; exact hP, va_K.moved hW.alike hK⟩⟩, hS.F ht⟩) hS.2.2 hdg
theorem ia_s_dreturn {r0 : Option Value} {h1 : ia_H} (hx : p.tables.exec = Jvm.exec) (hb : c.code = cc) (hlocks : meth.locks = false) (hK : va_K D cl tys s) (hr : meth.sig.returnType = some .double) (hdg : decode cc pc = .ok (.dreturn, 1)) (h : ia_pre C (fun r1 h2 => r1 = r0 ∧ h2 = h1) (ia_X p l e R s m args below meth c (MQ below (ia_Post D cl tys Sh ad ca A r0 h1) args s cells slots A) cells slots D cl A s.heap Sh ad ca nL) (ia_f Sh (pc, .dreturn, 1, a, b, w, v, ts) ls st hh)) : ia_X p l e R s m args below meth c (MQ below (ia_Post D cl tys Sh ad ca A r0 h1) args s cells slots A) cells slots D cl A s.heap Sh ad ca nL (pc, ls, st, hh) := by
  simp only [ia_f] at h
  split at h <;> first | exact h.elim | skip
  rename_i x
  obtain ⟨rfl, rfl⟩ := h
  intro H locs lc hP hD hS hR
  exact W.dret (v := x) hx hb hr (fun t ht hW => ⟨⟨x, (), rfl, rfl, ⟨by rw [ht]; exact hP, va_K.moved hW.alike hK⟩⟩, hS.F ht⟩) hS.2.2 hdg
theorem ia_s_return {r0 : Option Value} {h1 : ia_H} (hx : p.tables.exec = Jvm.exec) (hb : c.code = cc) (hlocks : meth.locks = false) (hK : va_K D cl tys s) (hr : meth.sig.returnType = none) (hdg : decode cc pc = .ok (.return_, 1)) (h : ia_pre C (fun r1 h2 => r1 = r0 ∧ h2 = h1) (ia_X p l e R s m args below meth c (MQ below (ia_Post D cl tys Sh ad ca A r0 h1) args s cells slots A) cells slots D cl A s.heap Sh ad ca nL) (ia_f Sh (pc, .return_, 1, a, b, w, v, ts) ls st hh)) : ia_X p l e R s m args below meth c (MQ below (ia_Post D cl tys Sh ad ca A r0 h1) args s cells slots A) cells slots D cl A s.heap Sh ad ca nL (pc, ls, st, hh) := by
  simp only [ia_f] at h
  split at h <;> first | exact h.elim | skip
  obtain ⟨rfl, rfl⟩ := h
  intro H locs lc hP hD hS hR
  exact W.vret hx hb hr (fun t ht hW => ⟨⟨(), rfl, trivial, ⟨by rw [ht]; exact hP, va_K.moved hW.alike hK⟩⟩, hS.F ht⟩) hS.2.2 hdg
end IA3
end
section
/-! THE WHOLE STEP, AND CONTRACTS OUT OF THE PURE MACHINE -/
/-- a word of the list by its place -/
abbrev ia_wd (Ts : List Cond) (i : Nat) (x : Cond) : Bool := decide (Ts[i]? = some x)
theorem ia_wd_mem {Ts : List Cond} {i : Nat} {x : Cond} (h : Ts[i]? = some x) : x ∈ Ts := List.mem_of_getElem? h
/-- an entry of a table is as the class file and the words say -/
def ia_okI (Ts : List Cond) (Ns : List ia_N) (cl : List vw_C) (MT : List ia_M) (M : ia_M) (e : ia_E) : Bool :=
  match e with
  | (pc, ins, len, a, b, wi, v, ts) =>
  match ins with
  | .aload_n _ => Nat.beq len 1
  | .iload_n _ => Nat.beq len 1
  | .lload_n _ => Nat.beq len 1
  | .dload_n _ => Nat.beq len 1
  | .aload _ => Nat.beq len 2
  | .iload _ => Nat.beq len 2
  | .lload _ => Nat.beq len 2
  | .astore_n k => Nat.beq len 1 && decide (k.val < M.2.2.2.1)
  | .istore_n k => Nat.beq len 1 && decide (k.val < M.2.2.2.1)
  | .astore k => Nat.beq len 2 && decide (k < M.2.2.2.1)
  | .istore k => Nat.beq len 2 && decide (k < M.2.2.2.1)
  | .lstore_n k => Nat.beq len 1 && decide (k.val + 1 < M.2.2.2.1)
  | .dstore_n k => Nat.beq len 1 && decide (k.val + 1 < M.2.2.2.1)
  | .lstore k => Nat.beq len 2 && decide (k + 1 < M.2.2.2.1)
  | .iinc k n => Nat.beq len 3 && decide (k < M.2.2.2.1) && decide (v = .int (Int32.ofInt n))
  | .iconst n => Nat.beq len 1 && decide (v = .int (Int32.ofInt n))
  | .bipush n => Nat.beq len 2 && decide (v = .int (Int8.ofInt n).toInt32)
  | .sipush n => Nat.beq len 3 && decide (v = .int (Int16.ofInt n).toInt32)
  | .lconst n => Nat.beq len 1 && decide (v = .long (Int64.ofNat n.val))
  | .dconst n => Nat.beq len 1 && decide (n = 0)
  | .ldc2_w i => Nat.beq len 3 && (match v with
    | .long x => ia_wd Ts wi (.constantLong M.2.1.cls i x)
    | .double x => ia_wd Ts wi (.constantDouble M.2.1.cls i x)
    | _ => false)
  | .iadd => Nat.beq len 1
  | .isub => Nat.beq len 1
  | .imul => Nat.beq len 1
  | .irem => Nat.beq len 1
  | .iand => Nat.beq len 1
  | .ixor => Nat.beq len 1
  | .ishr => Nat.beq len 1
  | .ladd => Nat.beq len 1
  | .lsub => Nat.beq len 1
  | .lmul => Nat.beq len 1
  | .land => Nat.beq len 1
  | .lor => Nat.beq len 1
  | .lneg => Nat.beq len 1
  | .lshl => Nat.beq len 1
  | .lcmp => Nat.beq len 1
  | .dadd => Nat.beq len 1
  | .dmul => Nat.beq len 1
  | .ddiv => Nat.beq len 1
  | .dneg => Nat.beq len 1
  | .i2l => Nat.beq len 1
  | .i2b => Nat.beq len 1
  | .i2d => Nat.beq len 1
  | .l2d => Nat.beq len 1
  | .d2l => Nat.beq len 1
  | .dup => Nat.beq len 1
  | .dup2 => Nat.beq len 1
  | .iaload => Nat.beq len 1
  | .baload => Nat.beq len 1
  | .laload => Nat.beq len 1
  | .iastore => Nat.beq len 1
  | .bastore => Nat.beq len 1
  | .lastore => Nat.beq len 1
  | .arraylength => Nat.beq len 1
  | .aaload => Nat.beq len 1
  | .dcmp _ => Nat.beq len 1
  | .goto off => Nat.beq len 3 && decide ((pc : Int) + off = (a : Int))
  | .if_icmp _ off => Nat.beq len 3 && decide ((pc : Int) + off = (a : Int))
  | .ifCond _ off => Nat.beq len 3 && decide ((pc : Int) + off = (a : Int))
  | .tableswitch dflt lo hi offs => decide ((pc : Int) + dflt = (a : Int)) && offs.toList.all (fun o => decide (0 ≤ (pc : Int) + o)) && decide (-2 ^ 31 ≤ lo) && decide (hi + 1 ≤ 2 ^ 31) && decide (lo + offs.toList.length = hi + 1) && decide (ts = ia_ts pc lo offs.toList)
  | .lookupswitch dflt ps => decide ((pc : Int) + dflt = (a : Int)) && (ps.toList.zip (ps.toList.drop 1)).all (fun (a, next) => a.1 < next.1) && ps.toList.all (fun o => decide (0 ≤ (pc : Int) + o.2) && decide (-2 ^ 31 ≤ o.1) && decide (o.1 < 2 ^ 31)) && decide (ts = ia_lt pc ps.toList)
  | .getfield i => Nat.beq len 3 && (match cl[a]? with
    | some q => decide (b < q.2.2) && (ia_wd Ts wi (.fieldLink M.2.1.cls i (q.2.1 b).1 (q.2.1 b).2.1 (q.2.1 b).2.2.1) || decide (Ns[wi]? = some (M.2.1.cls, i, (q.2.1 b).1, (q.2.1 b).2.1, (q.2.1 b).2.2.1, "OffsetBook")))
    | none => false)
  | .putfield i => Nat.beq len 3 && (match cl[a]? with
    | some q => decide (b < q.2.2) && decide ((q.2.1 b).2.2.2 = false) && (ia_wd Ts wi (.fieldLink M.2.1.cls i (q.2.1 b).1 (q.2.1 b).2.1 (q.2.1 b).2.2.1) || decide (Ns[wi]? = some (M.2.1.cls, i, (q.2.1 b).1, (q.2.1 b).2.1, (q.2.1 b).2.2.1, "OffsetBook")))
    | none => false)
  | .invokevirtual i => Nat.beq len 3 && (match ia_meth MT a, v with
    | some M', .ref cj => (match cl[cj]? with
      | some q => decide (q.1 = M'.2.1.cls) && Nat.beq M'.2.2.2.2.2.1 b && ia_wd Ts wi (.methodLink M.2.1.cls i M'.2.1) && ia_wd Ts M'.2.2.2.2.2.2.2.1.2.2.1 (.instanceMethod M'.2.1) && ia_wd Ts M'.2.2.2.2.2.2.2.1.2.2.2 (.selects M'.2.1.cls M'.2.1 M'.2.1) && decide (M'.2.2.2.2.2.2.2.2.1 + 1 ≤ M.2.2.2.2.2.2.2.2.1) && decide (8 + (M'.2.2.2.1 + 11) + M'.2.2.2.2.2.2.2.2.2 ≤ M.2.2.2.2.2.2.2.2.2)
      | none => false)
    | _, _ => false)
  | .invokestatic i => Nat.beq len 3 && (match a with
    | 0 => ia_wd Ts wi (.methodLink M.2.1.cls i ⟨"java/lang/Double", "doubleToRawLongBits", "(D)J"⟩) && (match ts with
      | [(_, n), (_, t), (_, u)] => ia_wd Ts n (.native ⟨"java/lang/Double", "doubleToRawLongBits", "(D)J"⟩) && ia_wd Ts t (.static ⟨"java/lang/Double", "doubleToRawLongBits", "(D)J"⟩) && ia_wd Ts u (.initialized "java/lang/Double")
      | _ => false) && decide (1 ≤ M.2.2.2.2.2.2.2.2.1) && decide (8 + 15 ≤ M.2.2.2.2.2.2.2.2.2)
    | 1 => ia_wd Ts wi (.methodLink M.2.1.cls i arraycopyName) && (match ts with
      | [(_, n), (_, t), (_, u)] => ia_wd Ts n (.native arraycopyName) && ia_wd Ts t (.static arraycopyName) && ia_wd Ts u (.initialized "java/lang/System")
      | _ => false) && decide (1 ≤ M.2.2.2.2.2.2.2.2.1) && decide (8 + (nativeFrameWords "java/lang/System" "arraycopy" 5 + 11) ≤ M.2.2.2.2.2.2.2.2.2)
    | 2 => ia_wd Ts wi (.methodLink M.2.1.cls i Lib.MathLoose.max_long.x) && (match ts with
      | [(_, n), (_, t), (_, u)] => ia_wd Ts n (.code Lib.MathLoose.max_long.x Lib.MathLoose.max_long.code 4 (some .long)) && ia_wd Ts t (.static Lib.MathLoose.max_long.x) && ia_wd Ts u (.initialized "java/lang/Math")
      | _ => false) && decide (1 ≤ M.2.2.2.2.2.2.2.2.1) && decide (8 + 15 ≤ M.2.2.2.2.2.2.2.2.2)
    | 3 => ia_wd Ts wi (.methodLink M.2.1.cls i Lib.MathLoose.min_long.x) && (match ts with
      | [(_, n), (_, t), (_, u)] => ia_wd Ts n (.code Lib.MathLoose.min_long.x Lib.MathLoose.min_long.code 4 (some .long)) && ia_wd Ts t (.static Lib.MathLoose.min_long.x) && ia_wd Ts u (.initialized "java/lang/Math")
      | _ => false) && decide (1 ≤ M.2.2.2.2.2.2.2.2.1) && decide (8 + 15 ≤ M.2.2.2.2.2.2.2.2.2)
    | 4 => ia_wd Ts wi (.methodLink M.2.1.cls i Lib.MathLoose.abs_long.x) && (match ts with
      | [(_, n), (_, t), (_, u)] => ia_wd Ts n (.code Lib.MathLoose.abs_long.x Lib.MathLoose.abs_long.code 2 (some .long)) && ia_wd Ts t (.static Lib.MathLoose.abs_long.x) && ia_wd Ts u (.initialized "java/lang/Math")
      | _ => false) && decide (1 ≤ M.2.2.2.2.2.2.2.2.1) && decide (8 + 15 ≤ M.2.2.2.2.2.2.2.2.2)
    | 5 => ia_wd Ts wi (.methodLink M.2.1.cls i Lib.Math.min.name) && (match ts with
      | [(_, n), (_, t), (_, u)] => ia_wd Ts n (.code Lib.Math.min.name Lib.Math.min.code 2 (some .int)) && ia_wd Ts t (.static Lib.Math.min.name) && ia_wd Ts u (.initialized "java/lang/Math")
      | _ => false) && decide (1 ≤ M.2.2.2.2.2.2.2.2.1) && decide (8 + 15 ≤ M.2.2.2.2.2.2.2.2.2)
    | a + 6 => match ia_meth MT a with
      | some M' => Nat.beq M'.2.2.2.2.2.1 b && ia_wd Ts wi (.methodLink M.2.1.cls i M'.2.1) && ia_wd Ts M'.2.2.2.2.2.2.2.1.2.2.1 (.static M'.2.1) && decide (M'.2.2.2.2.2.2.2.2.1 + 1 ≤ M.2.2.2.2.2.2.2.2.1) && decide (8 + (M'.2.2.2.1 + 11) + M'.2.2.2.2.2.2.2.2.2 ≤ M.2.2.2.2.2.2.2.2.2)
      | none => false)
  | .ireturn => Nat.beq len 1 && (match a with
    | 0 => decide (M.2.2.2.2.1 = some .int)
    | 1 => decide (M.2.2.2.2.1 = some .boolean)
    | _ => false)
  | .lreturn => Nat.beq len 1 && decide (M.2.2.2.2.1 = some .long)
  | .dreturn => Nat.beq len 1 && decide (M.2.2.2.2.1 = some .double)
  | .return_ => Nat.beq len 1 && decide (M.2.2.2.2.1 = none)
  | _ => false
def ia_okE (Ts : List Cond) (Ns : List ia_N) (cl : List vw_C) (MT : List ia_M) (M : ia_M) (e : ia_E) : Bool := decide (decode M.2.2.1 e.1 = .ok (e.2.1, e.2.2.1)) && ia_okI Ts Ns cl MT M e
/-- a method's own words -/
def ia_okM (Ts : List Cond) (M : ia_M) : Bool := ia_wd Ts M.2.2.2.2.2.2.2.1.1 (Cond.code M.2.1 M.2.2.1 M.2.2.2.1 M.2.2.2.2.1) && ia_wd Ts M.2.2.2.2.2.2.2.1.2.1 (.initialized M.2.1.cls) && decide (M.2.1.cls ≠ "java/lang/invoke/MethodHandle" ∧ M.2.1.cls ≠ "java/lang/invoke/VarHandle") && decide ((parseMethodDescriptor M.2.1.desc).map (fun d => d.parameters.length) = some M.2.2.2.2.2.1) && plainName M.2.1.cls
/-- the whole list is as the class files and the words say -/
def ia_OK (Ts : List Cond) (Ns : List ia_N) (cl : List vw_C) (MT : List ia_M) : Prop := ∀ (y : Nat) (M : ia_M), ia_meth MT y = some M → ia_okM Ts M = true ∧ ∀ ch ∈ M.2.2.2.2.2.2.1, ∀ e ∈ ch, ia_okE Ts Ns cl MT M e = true
/-- shapes fit the classes -/
def ia_Sok (Sh : List ia_C) (ty0 : Nat → Nat → FieldType) : Prop := (∀ x ci ks b, ia_at? Sh x = some (.inr (.inl (ci, ks))) → (ia_kind ks b = some (.inr false) → ty0 ci b = .int) ∧ (ia_kind ks b = some (.inr true) → ty0 ci b = .long)) ∧ (∀ x C l, ia_at? Sh x = some (.inr (.inr (C, l))) → l.length < 2 ^ 31) ∧ ia_Z Sh
theorem ia_find_spec {pc : Nat} : ∀ {ch : List ia_E} {e : ia_E}, ia_find pc ch = some e → e.1 = pc ∧ e ∈ ch
  | [], _, h => by cases h
  | x :: t, e, h => by
    simp only [ia_find] at h
    cases hb : Nat.beq x.1 pc with
    | true => rw [hb] at h; cases h; exact ⟨ia_beq hb, List.mem_cons_self⟩
    | false =>
      rw [hb] at h
      obtain ⟨h1, h2⟩ := ia_find_spec (ch := t) h
      exact ⟨h1, List.mem_cons_of_mem _ h2⟩
theorem ia_piece_mem : ∀ {K : List (List ia_E)} {n : Nat} {e : ia_E}, e ∈ ia_piece K n → ∃ ch ∈ K, e ∈ ch
  | [], _, _, h => by cases h
  | c :: _, 0, _, h => ⟨c, List.mem_cons_self, h⟩
  | _ :: t, n + 1, _, h => by
    obtain ⟨ch, h1, h2⟩ := ia_piece_mem (K := t) (n := n) h
    exact ⟨ch, List.mem_cons_of_mem _ h1, h2⟩
section IA4
variable {p : Program} {l : Launch} {e : Env} {R : Room} {s : State} {m : MethodId} {args : Array Value} {below : List Frame} {meth : Method} {c : Code}
variable {D : va_G} {cl : List vw_C} {A : Nat → Prop} {tys : List (ClassId × FieldType)} {Sh : List ia_C} {ad : Nat → Nat} {ca : Nat → ClassId}
set_option maxHeartbeats 4000000 in
theorem ia_step_ok {Ts : List Cond} {Ns : List ia_N} {MT : List ia_M} {M : ia_M} {ty0 : Nat → Nat → FieldType} {y0 : Nat} {r0 : Option Value} {h1 : ia_H} (hOK : ia_OK Ts Ns cl MT) (hM0 : ia_meth MT y0 = some M) (hG : Ts.all goodWord = true) (hCl : ia_Cl Ts cl ty0) (hSok : ia_Sok Sh ty0) (hT : ia_T Sh ca tys)
    (hx : p.tables.exec = Jvm.exec) (hb : c.code = M.2.2.1) (hml : c.maxLocals = M.2.2.2.1) (hr : meth.sig.returnType = M.2.2.2.2.1) (hlocks : meth.locks = false) (hts : ∀ w ∈ Ts, w.before args s = true) (hown : s.vm.findClass M.2.1.cls = some m.cls) (hK : va_K D cl tys s) (hNs : ∀ w ∈ Ns, va_Nw (ia_nw w) s) (hA : ∀ q, s.heap.size ≤ q → A q)
    (t : ia_S) (h : ia_pre (ia_Mt l Ts Ns MT D cl tys Sh ad ca) (fun r1 h2 => r1 = r0 ∧ h2 = h1) (ia_X p l e (ia_rm M) s m args below meth c (MQ below (ia_Post D cl tys Sh ad ca A r0 h1) args s 0 0 A) 0 0 D cl A s.heap Sh ad ca M.2.2.2.1) (ia_step Sh M.2.2.2.2.2.2.1 t)) :
    ia_X p l e (ia_rm M) s m args below meth c (MQ below (ia_Post D cl tys Sh ad ca A r0 h1) args s 0 0 A) 0 0 D cl A s.heap Sh ad ca M.2.2.2.1 t := by
  obtain ⟨pc, ls, st, hh⟩ := t
  simp only [ia_step] at h
  split at h <;> first | exact h.elim | skip
  rename_i en hfind
  obtain ⟨hpc, hmem⟩ := ia_find_spec hfind
  obtain ⟨ch, hch, hech⟩ := ia_piece_mem hmem
  have hok := (hOK y0 M hM0).2 ch hch en hech
  obtain ⟨pc', ins, len, a, b, wi, v, ts⟩ := en
  simp only at hpc
  subst hpc
  simp only [ia_okE, Bool.and_eq_true, decide_eq_true_eq] at hok
  obtain ⟨hdg, hok⟩ := hok
  cases ins
  case aload_n =>
    have hl := ia_beq (by simpa only [ia_okI] using hok)
    subst hl
    exact ia_s_aload_n hx hb hdg h
  case iload_n =>
    have hl := ia_beq (by simpa only [ia_okI] using hok)
    subst hl
    exact ia_s_iload_n hx hb hdg h
  case lload_n =>
    have hl := ia_beq (by simpa only [ia_okI] using hok)
    subst hl
    exact ia_s_lload_n hx hb hdg h
  case dload_n =>
    have hl := ia_beq (by simpa only [ia_okI] using hok)
    subst hl
    exact ia_s_dload_n hx hb hdg h
  case aload =>
    have hl := ia_beq (by simpa only [ia_okI] using hok)
    subst hl
    exact ia_s_aload hx hb hdg h
  case iload =>
    have hl := ia_beq (by simpa only [ia_okI] using hok)
    subst hl
    exact ia_s_iload hx hb hdg h
  case lload =>
    have hl := ia_beq (by simpa only [ia_okI] using hok)
    subst hl
    exact ia_s_lload hx hb hdg h
  case astore_n =>
    simp only [ia_okI, Bool.and_eq_true, decide_eq_true_eq] at hok
    obtain ⟨hl, hk⟩ := hok
    have hl := ia_beq hl
    subst hl
    exact ia_s_astore_n hx hb hk hdg h
  case istore_n =>
    simp only [ia_okI, Bool.and_eq_true, decide_eq_true_eq] at hok
    obtain ⟨hl, hk⟩ := hok
    have hl := ia_beq hl
    subst hl
    exact ia_s_istore_n hx hb hk hdg h
  case astore =>
    simp only [ia_okI, Bool.and_eq_true, decide_eq_true_eq] at hok
    obtain ⟨hl, hk⟩ := hok
    have hl := ia_beq hl
    subst hl
    exact ia_s_astore hx hb hk hdg h
  case istore =>
    simp only [ia_okI, Bool.and_eq_true, decide_eq_true_eq] at hok
    obtain ⟨hl, hk⟩ := hok
    have hl := ia_beq hl
    subst hl
    exact ia_s_istore hx hb hk hdg h
  case lstore_n =>
    simp only [ia_okI, Bool.and_eq_true, decide_eq_true_eq] at hok
    obtain ⟨hl, hk⟩ := hok
    have hl := ia_beq hl
    subst hl
    exact ia_s_lstore_n hx hb hk hdg h
  case dstore_n =>
    simp only [ia_okI, Bool.and_eq_true, decide_eq_true_eq] at hok
    obtain ⟨hl, hk⟩ := hok
    have hl := ia_beq hl
    subst hl
    exact ia_s_dstore_n hx hb hk hdg h
  case lstore =>
    simp only [ia_okI, Bool.and_eq_true, decide_eq_true_eq] at hok
    obtain ⟨hl, hk⟩ := hok
    have hl := ia_beq hl
    subst hl
    exact ia_s_lstore hx hb hk hdg h
  case iinc =>
    simp only [ia_okI, Bool.and_eq_true, decide_eq_true_eq] at hok
    obtain ⟨⟨hl, hk⟩, hv⟩ := hok
    have hl := ia_beq hl
    subst hl
    subst hv
    exact ia_s_iinc hx hb hk hdg h
  case iconst =>
    simp only [ia_okI, Bool.and_eq_true, decide_eq_true_eq] at hok
    obtain ⟨hl, hv⟩ := hok
    have hl := ia_beq hl
    subst hl
    subst hv
    exact ia_s_iconst hx hb hdg h
  case bipush =>
    simp only [ia_okI, Bool.and_eq_true, decide_eq_true_eq] at hok
    obtain ⟨hl, hv⟩ := hok
    have hl := ia_beq hl
    subst hl
    subst hv
    exact ia_s_bipush hx hb hdg h
  case sipush =>
    simp only [ia_okI, Bool.and_eq_true, decide_eq_true_eq] at hok
    obtain ⟨hl, hv⟩ := hok
    have hl := ia_beq hl
    subst hl
    subst hv
    exact ia_s_sipush hx hb hdg h
  case lconst =>
    simp only [ia_okI, Bool.and_eq_true, decide_eq_true_eq] at hok
    obtain ⟨hl, hv⟩ := hok
    have hl := ia_beq hl
    subst hl
    subst hv
    exact ia_s_lconst hx hb hdg h
  case dconst =>
    simp only [ia_okI, Bool.and_eq_true, decide_eq_true_eq] at hok
    obtain ⟨hl, hk⟩ := hok
    have hl := ia_beq hl
    subst hl
    subst hk
    exact ia_s_dconst hx hb hdg h
  case ldc2_w =>
    simp only [ia_okI, Bool.and_eq_true, decide_eq_true_eq] at hok
    obtain ⟨hl, hk⟩ := hok
    have hl := ia_beq hl
    subst hl
    cases v
    case long x => exact ia_s_ldc2l hx hb hown (hts _ (ia_wd_mem (of_decide_eq_true hk))) hdg h
    case double x => exact ia_s_ldc2d hx hb hown (hts _ (ia_wd_mem (of_decide_eq_true hk))) hdg h
    all_goals (cases hk)
  case iadd =>
    have hl := ia_beq (by simpa only [ia_okI] using hok)
    subst hl
    exact ia_s_iadd hx hb hdg h
  case isub =>
    have hl := ia_beq (by simpa only [ia_okI] using hok)
    subst hl
    exact ia_s_isub hx hb hdg h
  case imul =>
    have hl := ia_beq (by simpa only [ia_okI] using hok)
    subst hl
    exact ia_s_imul hx hb hdg h
  case irem =>
    have hl := ia_beq (by simpa only [ia_okI] using hok)
    subst hl
    exact ia_s_irem hx hb hdg h
  case iand =>
    have hl := ia_beq (by simpa only [ia_okI] using hok)
    subst hl
    exact ia_s_iand hx hb hdg h
  case ixor =>
    have hl := ia_beq (by simpa only [ia_okI] using hok)
    subst hl
    exact ia_s_ixor hx hb hdg h
  case ishr =>
    have hl := ia_beq (by simpa only [ia_okI] using hok)
    subst hl
    exact ia_s_ishr hx hb hdg h
  case ladd =>
    have hl := ia_beq (by simpa only [ia_okI] using hok)
    subst hl
    exact ia_s_ladd hx hb hdg h
  case lsub =>
    have hl := ia_beq (by simpa only [ia_okI] using hok)
    subst hl
    exact ia_s_lsub hx hb hdg h
  case lmul =>
    have hl := ia_beq (by simpa only [ia_okI] using hok)
    subst hl
    exact ia_s_lmul hx hb hdg h
  case land =>
    have hl := ia_beq (by simpa only [ia_okI] using hok)
    subst hl
    exact ia_s_land hx hb hdg h
  case lor =>
    have hl := ia_beq (by simpa only [ia_okI] using hok)
    subst hl
    exact ia_s_lor hx hb hdg h
  case lneg =>
    have hl := ia_beq (by simpa only [ia_okI] using hok)
    subst hl
    exact ia_s_lneg hx hb hdg h
  case lshl =>
    have hl := ia_beq (by simpa only [ia_okI] using hok)
    subst hl
    exact ia_s_lshl hx hb hdg h
  case lcmp =>
    have hl := ia_beq (by simpa only [ia_okI] using hok)
    subst hl
    exact ia_s_lcmp hx hb hdg h
  case dadd =>
    have hl := ia_beq (by simpa only [ia_okI] using hok)
    subst hl
    exact ia_s_dadd hx hb hdg h
  case dmul =>
    have hl := ia_beq (by simpa only [ia_okI] using hok)
    subst hl
    exact ia_s_dmul hx hb hdg h
  case ddiv =>
    have hl := ia_beq (by simpa only [ia_okI] using hok)
    subst hl
    exact ia_s_ddiv hx hb hdg h
  case dneg =>
    have hl := ia_beq (by simpa only [ia_okI] using hok)
    subst hl
    exact ia_s_dneg hx hb hdg h
  case i2l =>
    have hl := ia_beq (by simpa only [ia_okI] using hok)
    subst hl
    exact ia_s_i2l hx hb hdg h
  case i2b =>
    have hl := ia_beq (by simpa only [ia_okI] using hok)
    subst hl
    exact ia_s_i2b hx hb hdg h
  case i2d =>
    have hl := ia_beq (by simpa only [ia_okI] using hok)
    subst hl
    exact ia_s_i2d hx hb hdg h
  case l2d =>
    have hl := ia_beq (by simpa only [ia_okI] using hok)
    subst hl
    exact ia_s_l2d hx hb hdg h
  case d2l =>
    have hl := ia_beq (by simpa only [ia_okI] using hok)
    subst hl
    exact ia_s_d2l hx hb hdg h
  case dup =>
    have hl := ia_beq (by simpa only [ia_okI] using hok)
    subst hl
    exact ia_s_dup hx hb hdg h
  case dup2 =>
    have hl := ia_beq (by simpa only [ia_okI] using hok)
    subst hl
    exact ia_s_dup2 hx hb hdg h
  case iaload =>
    have hl := ia_beq (by simpa only [ia_okI] using hok)
    subst hl
    exact ia_s_iaload hx hb hK hT hSok.2.2 hdg h
  case baload =>
    have hl := ia_beq (by simpa only [ia_okI] using hok)
    subst hl
    exact ia_s_baload hx hb hK hT hSok.2.2 hdg h
  case laload =>
    have hl := ia_beq (by simpa only [ia_okI] using hok)
    subst hl
    exact ia_s_laload hx hb hK hT hSok.2.2 hdg h
  case iastore =>
    have hl := ia_beq (by simpa only [ia_okI] using hok)
    subst hl
    exact ia_s_iastore hx hb hK hT hSok.2.2 hdg h
  case bastore =>
    have hl := ia_beq (by simpa only [ia_okI] using hok)
    subst hl
    exact ia_s_bastore hx hb hK hT hSok.2.2 hdg h
  case lastore =>
    have hl := ia_beq (by simpa only [ia_okI] using hok)
    subst hl
    exact ia_s_lastore hx hb hK hT hSok.2.2 hdg h
  case arraylength =>
    have hl := ia_beq (by simpa only [ia_okI] using hok)
    subst hl
    exact ia_s_arraylength hx hb hK hT hSok.2.2 hdg h
  case aaload =>
    have hl := ia_beq (by simpa only [ia_okI] using hok)
    subst hl
    exact ia_s_aaload hx hb hK hT hSok.2.1 hdg h
  case dcmp =>
    have hl := ia_beq (by simpa only [ia_okI] using hok)
    subst hl
    exact ia_s_dcmp hx hb hdg h
  case goto =>
    simp only [ia_okI, Bool.and_eq_true, decide_eq_true_eq] at hok
    obtain ⟨hl, hk⟩ := hok
    have hl := ia_beq hl
    subst hl
    exact ia_s_goto hx hb hk hdg h
  case if_icmp =>
    simp only [ia_okI, Bool.and_eq_true, decide_eq_true_eq] at hok
    rename_i cnd off
    obtain ⟨hl, hk⟩ := hok
    have hl := ia_beq hl
    subst hl
    cases cnd
    · exact ia_s_icmp_eq hx hb hk hdg h
    · exact ia_s_icmp_ne hx hb hk hdg h
    · exact ia_s_icmp_lt hx hb hk hdg h
    · exact ia_s_icmp_ge hx hb hk hdg h
    · exact ia_s_icmp_gt hx hb hk hdg h
    · exact ia_s_icmp_le hx hb hk hdg h
  case ifCond =>
    simp only [ia_okI, Bool.and_eq_true, decide_eq_true_eq] at hok
    rename_i cnd off
    obtain ⟨hl, hk⟩ := hok
    have hl := ia_beq hl
    subst hl
    cases cnd
    · exact ia_s_if_eq hx hb hk hdg h
    · exact ia_s_if_ne hx hb hk hdg h
    · exact ia_s_if_lt hx hb hk hdg h
    · exact ia_s_if_ge hx hb hk hdg h
    · exact ia_s_if_gt hx hb hk hdg h
    · exact ia_s_if_le hx hb hk hdg h
  case tableswitch =>
    simp only [ia_okI, Bool.and_eq_true, decide_eq_true_eq] at hok
    obtain ⟨⟨⟨⟨⟨k1, k2⟩, k3⟩, k4⟩, k5⟩, k6⟩ := hok
    exact ia_s_tableswitch hx hb k1 (fun o ho => of_decide_eq_true (List.all_eq_true.mp k2 o ho)) k3 k4 k5 k6 hdg h
  case lookupswitch =>
    simp only [ia_okI, Bool.and_eq_true, decide_eq_true_eq] at hok
    obtain ⟨⟨⟨k1, k2⟩, k3⟩, k4⟩ := hok
    exact ia_s_lookupswitch hx hb k1 k2 (fun o ho => by have q := List.all_eq_true.mp k3 o ho; simp only [Bool.and_eq_true, decide_eq_true_eq] at q; exact ⟨q.1.1, q.1.2, q.2⟩) k4 hdg h
  case getfield =>
    simp only [ia_okI, Bool.and_eq_true, decide_eq_true_eq] at hok
    obtain ⟨hl, hk⟩ := hok
    have hl := ia_beq hl
    subst hl
    split at hk
    · rename_i q hq
      simp only [Bool.and_eq_true, Bool.or_eq_true, decide_eq_true_eq] at hk
      rcases hk.2 with hw | hw
      · exact ia_s_getfield hx hb hts hown hK hCl hq hk.1 (hts _ (ia_wd_mem hw)) hdg h
      · exact ia_s_getfieldN hx hb hts hown hK hCl hq hk.1 (va_Nw.use rfl (hNs _ (List.mem_of_getElem? hw))) hdg h
    · cases hk
  case putfield =>
    simp only [ia_okI, Bool.and_eq_true, decide_eq_true_eq] at hok
    obtain ⟨hl, hk⟩ := hok
    have hl := ia_beq hl
    subst hl
    split at hk
    · rename_i q hq
      simp only [Bool.and_eq_true, Bool.or_eq_true, decide_eq_true_eq] at hk
      rcases hk.2 with hw | hw
      · exact ia_s_putfield hx hb hts hown hK hCl hq hk.1.1 (hts _ (ia_wd_mem hw)) hk.1.2 (fun x ci ks hc hci => by subst hci; exact hSok.1 x ci ks b hc) hdg h
      · exact ia_s_putfieldN hx hb hts hown hK hCl hq hk.1.1 (va_Nw.use rfl (hNs _ (List.mem_of_getElem? hw))) hk.1.2 (fun x ci ks hc hci => by subst hci; exact hSok.1 x ci ks b hc) hdg h
    · cases hk
  case invokevirtual =>
    simp only [ia_okI, Bool.and_eq_true, decide_eq_true_eq] at hok
    obtain ⟨hl, hk⟩ := hok
    have hl := ia_beq hl
    subst hl
    split at hk
    · rename_i M2 cj hM
      have hoM := (hOK _ _ hM).1
      simp only [ia_okM, Bool.and_eq_true, decide_eq_true_eq] at hoM
      obtain ⟨⟨⟨⟨o1, o2⟩, o3⟩, o4⟩, o5⟩ := hoM
      split at hk
      · rename_i q hq
        simp only [Bool.and_eq_true, decide_eq_true_eq] at hk
        obtain ⟨⟨⟨⟨⟨⟨k1, k2⟩, k3⟩, k4⟩, k5⟩, k6⟩, k7⟩ := hk
        have k2 := ia_beq k2
        exact ia_s_invokevirtual hx hb hNs hml hts hown hG hK hA ⟨Nat.le_refl _, Nat.le_refl _⟩ (ia_wd_mem o1) (ia_wd_mem o2) o3 (by rw [o4, k2]) (ia_wd_mem k3) ⟨k6, k7⟩ hM (ia_wd_mem k4) (ia_wd_mem k5) hq k1 hdg h
      · cases hk
    · cases hk
  case invokestatic =>
    simp only [ia_okI, Bool.and_eq_true, decide_eq_true_eq] at hok
    obtain ⟨hl, hk⟩ := hok
    have hl := ia_beq hl
    subst hl
    match a, hk, h with
    | 0, hk, h =>
      simp only [Bool.and_eq_true, decide_eq_true_eq] at hk
      obtain ⟨⟨⟨k1, k2⟩, k3⟩, k4⟩ := hk
      split at k2
      · simp only [Bool.and_eq_true, decide_eq_true_eq] at k2
        obtain ⟨⟨j1, j2⟩, j3⟩ := k2
        exact ia_s_d2raw hx hb hml hown (hts _ (ia_wd_mem k1)) (hts _ (ia_wd_mem j1)) (hts _ (ia_wd_mem j2)) (hts _ (ia_wd_mem j3)) k3 k4 hdg h
      · cases k2
    | 1, hk, h =>
      simp only [Bool.and_eq_true, decide_eq_true_eq] at hk
      obtain ⟨⟨⟨k1, k2⟩, k3⟩, k4⟩ := hk
      split at k2
      · simp only [Bool.and_eq_true, decide_eq_true_eq] at k2
        obtain ⟨⟨j1, j2⟩, j3⟩ := k2
        exact ia_s_arraycopy hx hb hml hown hK hT (hts _ (ia_wd_mem k1)) (hts _ (ia_wd_mem j1)) (hts _ (ia_wd_mem j2)) (hts _ (ia_wd_mem j3)) k3 k4 hdg h
      · cases k2
    | 2, hk, h =>
      simp only [Bool.and_eq_true, decide_eq_true_eq] at hk
      obtain ⟨⟨⟨k1, k2⟩, k3⟩, k4⟩ := hk
      split at k2
      · simp only [Bool.and_eq_true, decide_eq_true_eq] at k2
        obtain ⟨⟨j1, j2⟩, j3⟩ := k2
        exact ia_s_max_long hx hb hml hown (hts _ (ia_wd_mem k1)) (hts _ (ia_wd_mem j1)) (hts _ (ia_wd_mem j2)) (hts _ (ia_wd_mem j3)) k3 k4 ⟨Nat.le_refl _, Nat.le_refl _⟩ hdg h
      · cases k2
    | 3, hk, h =>
      simp only [Bool.and_eq_true, decide_eq_true_eq] at hk
      obtain ⟨⟨⟨k1, k2⟩, k3⟩, k4⟩ := hk
      split at k2
      · simp only [Bool.and_eq_true, decide_eq_true_eq] at k2
        obtain ⟨⟨j1, j2⟩, j3⟩ := k2
        exact ia_s_min_long hx hb hml hown (hts _ (ia_wd_mem k1)) (hts _ (ia_wd_mem j1)) (hts _ (ia_wd_mem j2)) (hts _ (ia_wd_mem j3)) k3 k4 ⟨Nat.le_refl _, Nat.le_refl _⟩ hdg h
      · cases k2
    | 4, hk, h =>
      simp only [Bool.and_eq_true, decide_eq_true_eq] at hk
      obtain ⟨⟨⟨k1, k2⟩, k3⟩, k4⟩ := hk
      split at k2
      · simp only [Bool.and_eq_true, decide_eq_true_eq] at k2
        obtain ⟨⟨j1, j2⟩, j3⟩ := k2
        exact ia_s_abs_long hx hb hml hown (hts _ (ia_wd_mem k1)) (hts _ (ia_wd_mem j1)) (hts _ (ia_wd_mem j2)) (hts _ (ia_wd_mem j3)) k3 k4 ⟨Nat.le_refl _, Nat.le_refl _⟩ hdg h
      · cases k2
    | 5, hk, h =>
      simp only [Bool.and_eq_true, decide_eq_true_eq] at hk
      obtain ⟨⟨⟨k1, k2⟩, k3⟩, k4⟩ := hk
      split at k2
      · simp only [Bool.and_eq_true, decide_eq_true_eq] at k2
        obtain ⟨⟨j1, j2⟩, j3⟩ := k2
        exact ia_s_min_int hx hb hml hown (hts _ (ia_wd_mem k1)) (hts _ (ia_wd_mem j1)) (hts _ (ia_wd_mem j2)) (hts _ (ia_wd_mem j3)) k3 k4 ⟨Nat.le_refl _, Nat.le_refl _⟩ hdg h
      · cases k2
    | a + 6, hk, h =>
      simp only at hk
      split at hk
      · rename_i M2 hM
        have hoM := (hOK _ _ hM).1
        simp only [ia_okM, Bool.and_eq_true, decide_eq_true_eq] at hoM
        obtain ⟨⟨⟨⟨o1, o2⟩, o3⟩, o4⟩, o5⟩ := hoM
        simp only [Bool.and_eq_true, decide_eq_true_eq] at hk
        obtain ⟨⟨⟨⟨k2, k3⟩, k4⟩, k6⟩, k7⟩ := hk
        have k2 := ia_beq k2
        exact ia_s_invokestatic hx hb hNs hml hts hown hG hK hA ⟨Nat.le_refl _, Nat.le_refl _⟩ (ia_wd_mem o1) (ia_wd_mem o2) o3 (by rw [o4, k2]) (ia_wd_mem k3) ⟨k6, k7⟩ hM (ia_wd_mem k4) hdg h
      · cases hk
  case ireturn =>
    simp only [ia_okI, Bool.and_eq_true, decide_eq_true_eq] at hok
    obtain ⟨hl, hk⟩ := hok
    have hl := ia_beq hl
    subst hl
    match a, hk, h with
    | 0, hk, h => exact ia_s_ireturn hx hb hlocks hK (by rw [hr]; exact of_decide_eq_true hk) hdg h
    | 1, hk, h => exact ia_s_zreturn hx hb hlocks hK (by rw [hr]; exact of_decide_eq_true hk) hdg h
    | n + 2, hk, h => cases hk
  case lreturn =>
    simp only [ia_okI, Bool.and_eq_true, decide_eq_true_eq] at hok
    obtain ⟨hl, hk⟩ := hok
    have hl := ia_beq hl
    subst hl
    exact ia_s_lreturn hx hb hlocks hK (by rw [hr]; exact hk) hdg h
  case dreturn =>
    simp only [ia_okI, Bool.and_eq_true, decide_eq_true_eq] at hok
    obtain ⟨hl, hk⟩ := hok
    have hl := ia_beq hl
    subst hl
    exact ia_s_dreturn hx hb hlocks hK (by rw [hr]; exact hk) hdg h
  case return_ =>
    simp only [ia_okI, Bool.and_eq_true, decide_eq_true_eq] at hok
    obtain ⟨hl, hk⟩ := hok
    have hl := ia_beq hl
    subst hl
    exact ia_s_return hx hb hlocks hK (by rw [hr]; exact hk) hdg h
  all_goals (exact absurd hok (by simp [ia_okI]))
theorem ia_args_len (ad : Nat → Nat) : ∀ as : List Value, (lg_sl (as.map (ia_v ad))).length = (ia_args as).length
  | [] => rfl
  | v :: vs => by
    have ih := ia_args_len ad vs
    have e : ∀ (x : Value) (xs : List Value), lg_sl (x :: xs) = (if x.category = 2 then [Slot.val x, Slot.second] else [Slot.val x]) ++ lg_sl xs := fun x xs => by simp [lg_sl]
    rw [List.map_cons, e, List.length_append, ih]
    cases v <;> simp [ia_v, Value.category, ia_args] <;> omega
theorem ia_args_mem (ad : Nat → Nat) (n : Nat) : ∀ (as : List Value) (i0 i : Nat) (v : Value), ia_get (ia_args as ++ List.replicate n none) i = some v → (i0 + i, ia_v ad v) ∈ lv_args i0 (as.map (ia_v ad))
  | [], i0, i, v, h => by
    simp only [ia_args, List.nil_append, ia_get_none] at h
    cases h
  | u :: us, i0, i, v, h => by
    have two : ∀ x : Value, x.category = 2 → ia_args (u :: us) = some x :: none :: ia_args us → u = x → (i0 + i, ia_v ad v) ∈ lv_args i0 ((u :: us).map (ia_v ad)) := by
      intro x hx he hu
      rw [he] at h
      simp only [List.map_cons, lv_args, ia_cat, hu, hx, if_true]
      match i, h with
      | 0, h => cases h; exact List.mem_cons_self
      | 1, h => cases h
      | i + 2, h => exact List.mem_cons_of_mem _ (by rw [show i0 + (i + 2) = i0 + 2 + i by omega]; exact ia_args_mem ad n us (i0 + 2) i v h)
    have one : ¬ u.category = 2 → ia_args (u :: us) = some u :: ia_args us → (i0 + i, ia_v ad v) ∈ lv_args i0 ((u :: us).map (ia_v ad)) := by
      intro hx he
      rw [he] at h
      simp only [List.map_cons, lv_args, ia_cat, hx, if_false]
      match i, h with
      | 0, h => cases h; exact List.mem_cons_self
      | i + 1, h => exact List.mem_cons_of_mem _ (by rw [show i0 + (i + 1) = i0 + 1 + i by omega]; exact ia_args_mem ad n us (i0 + 1) i v h)
    cases u with
    | long x => exact two _ rfl rfl rfl
    | double x => exact two _ rfl rfl rfl
    | int x => exact one (by simp [Value.category]) rfl
    | float x => exact one (by simp [Value.category]) rfl
    | ref x => exact one (by simp [Value.category]) rfl
    | null => exact one (by simp [Value.category]) rfl
    | retAddr x => exact one (by simp [Value.category]) rfl
set_option maxHeartbeats 4000000 in
/-- WHAT THE PURE MACHINE SAYS OF A METHOD IS ITS CONTRACT -/
theorem ia_sound {l : Launch} {Ts : List Cond} {Ns : List ia_N} {MT : List ia_M} {D : va_G} {cl : List vw_C} {tys : List (ClassId × FieldType)} {Sh : List ia_C} {ad : Nat → Nat} {ca : Nat → ClassId} {ty0 : Nat → Nat → FieldType} (hOK : ia_OK Ts Ns cl MT) (hG : Ts.all goodWord = true) (hCl : ia_Cl Ts cl ty0) (hSok : ia_Sok Sh ty0) (hT : ia_T Sh ca tys)
    {y : Nat} {as : List Value} {h : ia_H} {r : Option Value} {h' : ia_H} (hE : ia_Ev Sh MT y as h r h') : ia_Mt l Ts Ns MT D cl tys Sh ad ca y as h r h' := by
  refine hE (ia_Mt l Ts Ns MT D cl tys Sh ad ca) ?_
  intro y as h r h' M hM hn hRun M2 hM2 sz
  have e0 : M2 = M := Option.some.inj (hM2.symm.trans hM)
  subst e0
  have hoM := (hOK _ _ hM).1
  simp only [ia_okM, Bool.and_eq_true, decide_eq_true_eq] at hoM
  refine Met.ofW (cc := M2.2.2.1) (maxL := M2.2.2.2.1) (ret := M2.2.2.2.2.1) hoM.2 rfl ?_
  intro p e s m args below meth c s₁ B hml hv
  obtain ⟨rfl, hsz, hP, hK, hD0, hNs⟩ := hv
  have hts := atoms_spec (ws := ia_ws Ts M2) B.pre
  have hown : s.vm.findClass M2.2.1.cls = some m.cls := findClass_of_methodNamed B.named
  subst hsz
  have hD := hD0.self (sz := s.heap.size)
  have hA : ∀ q : Nat, s.heap.size ≤ q → va_A (ia_w ad ca h 0 Sh) s.heap.size q := fun q hq => Or.inr hq
  have key := hRun _ (ia_step_ok (p := p) (l := l) (e := e) (s := s) (m := m) (args := (as.map (ia_v ad)).toArray) (below := below) (meth := meth) (c := c) (A := va_A (ia_w ad ca h 0 Sh) s.heap.size) hOK hM hG hCl hSok hT B.exec B.bytes hml B.returns B.notSynchronized (fun w hw => hts w (List.mem_cons_of_mem _ hw)) hown hK hNs hA)
  have hln : (lg_sl (as.map (ia_v ad))).length ≤ M2.2.2.2.1 := by rw [ia_args_len]; exact hn
  have hl := lv_entry (as.map (ia_v ad)) (n := M2.2.2.2.1) hln
  rw [lg_entry_eq]
  exact key s.heap [] _ hP hD va_S.rf (ia_R_of (by simp [ia_enter]; omega) hl (fun q hq => by
    obtain ⟨v, hg, hv⟩ := ia_al_mem.mp hq
    have := ia_args_mem ad _ as 0 q.1 v hg
    rw [Nat.zero_add, ← hv] at this
    exact this))
end IA4
end
section
-- ===== PART A: goes FIRST, ahead of the names: the tables' words, and 'selects' of the private methods out of them =====
/-- a private method of a class that the tables say can be made, by its rows of tables_1 -/
def lw_okq (q : MethodName × Nat) : Prop := (q.1.cls ≠ "java/lang/invoke/MethodHandle" ∧ q.1.cls ≠ "java/lang/invoke/VarHandle") ∧ Cond.instantiable q.1.cls q.2 ∈ tables_1 ∧ Cond.privateMethod q.1 ∈ tables_1 ∧ Cond.instanceMethod q.1 ∈ tables_1
theorem lw_p0 : lw_okq (⟨"OffsetBook$Reader", "begin", "(LOffsetBook$Told;)V"⟩, 4) := ⟨⟨by decide +kernel, by decide +kernel⟩, List.mem_of_getElem? (i := 24) (by decide +kernel), List.mem_of_getElem? (i := 278) (by decide +kernel), List.mem_of_getElem? (i := 279) (by decide +kernel)⟩
theorem lw_p1 : lw_okq (⟨"OffsetBook$Reader", "readStatement", "(LOffsetBook$Told;)V"⟩, 4) := ⟨⟨by decide +kernel, by decide +kernel⟩, List.mem_of_getElem? (i := 24) (by decide +kernel), List.mem_of_getElem? (i := 282) (by decide +kernel), List.mem_of_getElem? (i := 283) (by decide +kernel)⟩
theorem lw_p2 : lw_okq (⟨"OffsetBook$Reader", "readName", "(LOffsetBook$Told;)I"⟩, 4) := ⟨⟨by decide +kernel, by decide +kernel⟩, List.mem_of_getElem? (i := 24) (by decide +kernel), List.mem_of_getElem? (i := 290) (by decide +kernel), List.mem_of_getElem? (i := 291) (by decide +kernel)⟩
theorem lw_p3 : lw_okq (⟨"OffsetBook$Reader", "fail", "(II)V"⟩, 4) := ⟨⟨by decide +kernel, by decide +kernel⟩, List.mem_of_getElem? (i := 24) (by decide +kernel), List.mem_of_getElem? (i := 302) (by decide +kernel), List.mem_of_getElem? (i := 303) (by decide +kernel)⟩
theorem lw_p4 : lw_okq (⟨"OffsetBook$Told", "isNameAt", "(ILOffsetBook$Tape;I)Z"⟩, 8) := ⟨⟨by decide +kernel, by decide +kernel⟩, List.mem_of_getElem? (i := 66) (by decide +kernel), List.mem_of_getElem? (i := 310) (by decide +kernel), List.mem_of_getElem? (i := 311) (by decide +kernel)⟩
theorem lw_p5 : lw_okq (⟨"OffsetBook$Reader", "isFull", "(LOffsetBook$Told;)Z"⟩, 4) := ⟨⟨by decide +kernel, by decide +kernel⟩, List.mem_of_getElem? (i := 24) (by decide +kernel), List.mem_of_getElem? (i := 321) (by decide +kernel), List.mem_of_getElem? (i := 322) (by decide +kernel)⟩
theorem lw_p6 : lw_okq (⟨"OffsetBook$Reader", "pass", "(C)V"⟩, 4) := ⟨⟨by decide +kernel, by decide +kernel⟩, List.mem_of_getElem? (i := 24) (by decide +kernel), List.mem_of_getElem? (i := 325) (by decide +kernel), List.mem_of_getElem? (i := 326) (by decide +kernel)⟩
theorem lw_p7 : lw_okq (⟨"OffsetBook$Reader", "readRightSide", "(LOffsetBook$Told;I)V"⟩, 4) := ⟨⟨by decide +kernel, by decide +kernel⟩, List.mem_of_getElem? (i := 24) (by decide +kernel), List.mem_of_getElem? (i := 333) (by decide +kernel), List.mem_of_getElem? (i := 334) (by decide +kernel)⟩
theorem lw_p8 : lw_okq (⟨"OffsetBook$Reader", "readAmount", "(Z)J"⟩, 4) := ⟨⟨by decide +kernel, by decide +kernel⟩, List.mem_of_getElem? (i := 24) (by decide +kernel), List.mem_of_getElem? (i := 338) (by decide +kernel), List.mem_of_getElem? (i := 339) (by decide +kernel)⟩
theorem lw_p9 : lw_okq (⟨"OffsetBook$Reader", "readNumber", "()J"⟩, 4) := ⟨⟨by decide +kernel, by decide +kernel⟩, List.mem_of_getElem? (i := 24) (by decide +kernel), List.mem_of_getElem? (i := 342) (by decide +kernel), List.mem_of_getElem? (i := 343) (by decide +kernel)⟩
theorem lw_p10 : lw_okq (⟨"OffsetBook", "judgeAnew", "()V"⟩, 8) := ⟨⟨by decide +kernel, by decide +kernel⟩, List.mem_of_getElem? (i := 16) (by decide +kernel), List.mem_of_getElem? (i := 366) (by decide +kernel), List.mem_of_getElem? (i := 367) (by decide +kernel)⟩
theorem lw_p11 : lw_okq (⟨"OffsetBook$Groups", "join", "(IIJ)V"⟩, 3) := ⟨⟨by decide +kernel, by decide +kernel⟩, List.mem_of_getElem? (i := 121) (by decide +kernel), List.mem_of_getElem? (i := 393) (by decide +kernel), List.mem_of_getElem? (i := 394) (by decide +kernel)⟩
theorem lw_p12 : lw_okq (⟨"OffsetBook$Groups", "move", "(IIJ)V"⟩, 3) := ⟨⟨by decide +kernel, by decide +kernel⟩, List.mem_of_getElem? (i := 121) (by decide +kernel), List.mem_of_getElem? (i := 397) (by decide +kernel), List.mem_of_getElem? (i := 398) (by decide +kernel)⟩
theorem lw_p13 : lw_okq (⟨"OffsetBook$Web", "sortWays", "()V"⟩, 14) := ⟨⟨by decide +kernel, by decide +kernel⟩, List.mem_of_getElem? (i := 141) (by decide +kernel), List.mem_of_getElem? (i := 405) (by decide +kernel), List.mem_of_getElem? (i := 406) (by decide +kernel)⟩
theorem lw_p14 : lw_okq (⟨"OffsetBook", "isStatement", "(I)Z"⟩, 8) := ⟨⟨by decide +kernel, by decide +kernel⟩, List.mem_of_getElem? (i := 16) (by decide +kernel), List.mem_of_getElem? (i := 422) (by decide +kernel), List.mem_of_getElem? (i := 423) (by decide +kernel)⟩
theorem lw_p15 : lw_okq (⟨"OffsetBook", "turn", "(I)I"⟩, 8) := ⟨⟨by decide +kernel, by decide +kernel⟩, List.mem_of_getElem? (i := 16) (by decide +kernel), List.mem_of_getElem? (i := 426) (by decide +kernel), List.mem_of_getElem? (i := 427) (by decide +kernel)⟩
def lw_privs_1 : List (MethodName × Nat) := [(⟨"OffsetBook$Reader", "begin", "(LOffsetBook$Told;)V"⟩, 4), (⟨"OffsetBook$Reader", "readStatement", "(LOffsetBook$Told;)V"⟩, 4), (⟨"OffsetBook$Reader", "readName", "(LOffsetBook$Told;)I"⟩, 4), (⟨"OffsetBook$Reader", "fail", "(II)V"⟩, 4), (⟨"OffsetBook$Told", "isNameAt", "(ILOffsetBook$Tape;I)Z"⟩, 8), (⟨"OffsetBook$Reader", "isFull", "(LOffsetBook$Told;)Z"⟩, 4), (⟨"OffsetBook$Reader", "pass", "(C)V"⟩, 4), (⟨"OffsetBook$Reader", "readRightSide", "(LOffsetBook$Told;I)V"⟩, 4), (⟨"OffsetBook$Reader", "readAmount", "(Z)J"⟩, 4), (⟨"OffsetBook$Reader", "readNumber", "()J"⟩, 4), (⟨"OffsetBook", "judgeAnew", "()V"⟩, 8), (⟨"OffsetBook$Groups", "join", "(IIJ)V"⟩, 3), (⟨"OffsetBook$Groups", "move", "(IIJ)V"⟩, 3), (⟨"OffsetBook$Web", "sortWays", "()V"⟩, 14), (⟨"OffsetBook", "isStatement", "(I)Z"⟩, 8), (⟨"OffsetBook", "turn", "(I)I"⟩, 8)]
theorem lw_r1 : ∀ q ∈ lw_privs_1, lw_okq q := List.forall_mem_cons.mpr ⟨lw_p0, List.forall_mem_cons.mpr ⟨lw_p1, List.forall_mem_cons.mpr ⟨lw_p2, List.forall_mem_cons.mpr ⟨lw_p3, List.forall_mem_cons.mpr ⟨lw_p4, List.forall_mem_cons.mpr ⟨lw_p5, List.forall_mem_cons.mpr ⟨lw_p6, List.forall_mem_cons.mpr ⟨lw_p7, List.forall_mem_cons.mpr ⟨lw_p8, List.forall_mem_cons.mpr ⟨lw_p9, List.forall_mem_cons.mpr ⟨lw_p10, List.forall_mem_cons.mpr ⟨lw_p11, List.forall_mem_cons.mpr ⟨lw_p12, List.forall_mem_cons.mpr ⟨lw_p13, List.forall_mem_cons.mpr ⟨lw_p14, List.forall_mem_cons.mpr ⟨lw_p15, fun _ h => absurd h List.not_mem_nil⟩⟩⟩⟩⟩⟩⟩⟩⟩⟩⟩⟩⟩⟩⟩⟩
theorem lw_p16 : lw_okq (⟨"OffsetBook", "hangs", "(I)Z"⟩, 8) := ⟨⟨by decide +kernel, by decide +kernel⟩, List.mem_of_getElem? (i := 16) (by decide +kernel), List.mem_of_getElem? (i := 450) (by decide +kernel), List.mem_of_getElem? (i := 451) (by decide +kernel)⟩
theorem lw_p17 : lw_okq (⟨"OffsetBook", "relyOn", "(I)I"⟩, 8) := ⟨⟨by decide +kernel, by decide +kernel⟩, List.mem_of_getElem? (i := 16) (by decide +kernel), List.mem_of_getElem? (i := 454) (by decide +kernel), List.mem_of_getElem? (i := 455) (by decide +kernel)⟩
theorem lw_p18 : lw_okq (⟨"OffsetBook$Web", "forgetReached", "()V"⟩, 14) := ⟨⟨by decide +kernel, by decide +kernel⟩, List.mem_of_getElem? (i := 141) (by decide +kernel), List.mem_of_getElem? (i := 462) (by decide +kernel), List.mem_of_getElem? (i := 463) (by decide +kernel)⟩
theorem lw_p19 : lw_okq (⟨"OffsetBook$Web", "reachFrom", "(I)V"⟩, 14) := ⟨⟨by decide +kernel, by decide +kernel⟩, List.mem_of_getElem? (i := 141) (by decide +kernel), List.mem_of_getElem? (i := 466) (by decide +kernel), List.mem_of_getElem? (i := 467) (by decide +kernel)⟩
theorem lw_p20 : lw_okq (⟨"OffsetBook$Web", "mark", "(III)V"⟩, 14) := ⟨⟨by decide +kernel, by decide +kernel⟩, List.mem_of_getElem? (i := 141) (by decide +kernel), List.mem_of_getElem? (i := 470) (by decide +kernel), List.mem_of_getElem? (i := 471) (by decide +kernel)⟩
theorem lw_p21 : lw_okq (⟨"OffsetBook$Web", "hasRoom", "(I)Z"⟩, 14) := ⟨⟨by decide +kernel, by decide +kernel⟩, List.mem_of_getElem? (i := 141) (by decide +kernel), List.mem_of_getElem? (i := 474) (by decide +kernel), List.mem_of_getElem? (i := 475) (by decide +kernel)⟩
theorem lw_p22 : lw_okq (⟨"OffsetBook$Web", "isStanding", "(I)Z"⟩, 14) := ⟨⟨by decide +kernel, by decide +kernel⟩, List.mem_of_getElem? (i := 141) (by decide +kernel), List.mem_of_getElem? (i := 478) (by decide +kernel), List.mem_of_getElem? (i := 479) (by decide +kernel)⟩
theorem lw_p23 : lw_okq (⟨"OffsetBook$Web", "lowerEnd", "(I)I"⟩, 14) := ⟨⟨by decide +kernel, by decide +kernel⟩, List.mem_of_getElem? (i := 141) (by decide +kernel), List.mem_of_getElem? (i := 482) (by decide +kernel), List.mem_of_getElem? (i := 483) (by decide +kernel)⟩
theorem lw_p24 : lw_okq (⟨"OffsetBook$Web", "markRing", "(II)V"⟩, 14) := ⟨⟨by decide +kernel, by decide +kernel⟩, List.mem_of_getElem? (i := 141) (by decide +kernel), List.mem_of_getElem? (i := 486) (by decide +kernel), List.mem_of_getElem? (i := 487) (by decide +kernel)⟩
theorem lw_p25 : lw_okq (⟨"OffsetBook$Web", "above", "(I)I"⟩, 14) := ⟨⟨by decide +kernel, by decide +kernel⟩, List.mem_of_getElem? (i := 141) (by decide +kernel), List.mem_of_getElem? (i := 490) (by decide +kernel), List.mem_of_getElem? (i := 491) (by decide +kernel)⟩
theorem lw_p26 : lw_okq (⟨"OffsetBook$Web", "addUpBelow", "()V"⟩, 14) := ⟨⟨by decide +kernel, by decide +kernel⟩, List.mem_of_getElem? (i := 141) (by decide +kernel), List.mem_of_getElem? (i := 494) (by decide +kernel), List.mem_of_getElem? (i := 495) (by decide +kernel)⟩
theorem lw_p27 : lw_okq (⟨"OffsetBook$Web", "fillRely", "()V"⟩, 14) := ⟨⟨by decide +kernel, by decide +kernel⟩, List.mem_of_getElem? (i := 141) (by decide +kernel), List.mem_of_getElem? (i := 498) (by decide +kernel), List.mem_of_getElem? (i := 499) (by decide +kernel)⟩
theorem lw_p28 : lw_okq (⟨"OffsetBook", "isGauge", "(I)Z"⟩, 8) := ⟨⟨by decide +kernel, by decide +kernel⟩, List.mem_of_getElem? (i := 16) (by decide +kernel), List.mem_of_getElem? (i := 520) (by decide +kernel), List.mem_of_getElem? (i := 521) (by decide +kernel)⟩
theorem lw_p29 : lw_okq (⟨"OffsetBook$Web", "firstNearer", "(I)I"⟩, 14) := ⟨⟨by decide +kernel, by decide +kernel⟩, List.mem_of_getElem? (i := 141) (by decide +kernel), List.mem_of_getElem? (i := 589) (by decide +kernel), List.mem_of_getElem? (i := 590) (by decide +kernel)⟩
theorem lw_p30 : lw_okq (⟨"OffsetBook$Web", "flowAlong", "(I)V"⟩, 14) := ⟨⟨by decide +kernel, by decide +kernel⟩, List.mem_of_getElem? (i := 141) (by decide +kernel), List.mem_of_getElem? (i := 601) (by decide +kernel), List.mem_of_getElem? (i := 602) (by decide +kernel)⟩
theorem lw_p31 : lw_okq (⟨"OffsetBook$Web", "isReached", "(I)Z"⟩, 14) := ⟨⟨by decide +kernel, by decide +kernel⟩, List.mem_of_getElem? (i := 141) (by decide +kernel), List.mem_of_getElem? (i := 605) (by decide +kernel), List.mem_of_getElem? (i := 606) (by decide +kernel)⟩
def lw_privs_2 : List (MethodName × Nat) := [(⟨"OffsetBook", "hangs", "(I)Z"⟩, 8), (⟨"OffsetBook", "relyOn", "(I)I"⟩, 8), (⟨"OffsetBook$Web", "forgetReached", "()V"⟩, 14), (⟨"OffsetBook$Web", "reachFrom", "(I)V"⟩, 14), (⟨"OffsetBook$Web", "mark", "(III)V"⟩, 14), (⟨"OffsetBook$Web", "hasRoom", "(I)Z"⟩, 14), (⟨"OffsetBook$Web", "isStanding", "(I)Z"⟩, 14), (⟨"OffsetBook$Web", "lowerEnd", "(I)I"⟩, 14), (⟨"OffsetBook$Web", "markRing", "(II)V"⟩, 14), (⟨"OffsetBook$Web", "above", "(I)I"⟩, 14), (⟨"OffsetBook$Web", "addUpBelow", "()V"⟩, 14), (⟨"OffsetBook$Web", "fillRely", "()V"⟩, 14), (⟨"OffsetBook", "isGauge", "(I)Z"⟩, 8), (⟨"OffsetBook$Web", "firstNearer", "(I)I"⟩, 14), (⟨"OffsetBook$Web", "flowAlong", "(I)V"⟩, 14), (⟨"OffsetBook$Web", "isReached", "(I)Z"⟩, 14)]
theorem lw_r2 : ∀ q ∈ lw_privs_2, lw_okq q := List.forall_mem_cons.mpr ⟨lw_p16, List.forall_mem_cons.mpr ⟨lw_p17, List.forall_mem_cons.mpr ⟨lw_p18, List.forall_mem_cons.mpr ⟨lw_p19, List.forall_mem_cons.mpr ⟨lw_p20, List.forall_mem_cons.mpr ⟨lw_p21, List.forall_mem_cons.mpr ⟨lw_p22, List.forall_mem_cons.mpr ⟨lw_p23, List.forall_mem_cons.mpr ⟨lw_p24, List.forall_mem_cons.mpr ⟨lw_p25, List.forall_mem_cons.mpr ⟨lw_p26, List.forall_mem_cons.mpr ⟨lw_p27, List.forall_mem_cons.mpr ⟨lw_p28, List.forall_mem_cons.mpr ⟨lw_p29, List.forall_mem_cons.mpr ⟨lw_p30, List.forall_mem_cons.mpr ⟨lw_p31, fun _ h => absurd h List.not_mem_nil⟩⟩⟩⟩⟩⟩⟩⟩⟩⟩⟩⟩⟩⟩⟩⟩
theorem lw_p32 : lw_okq (⟨"OffsetBook", "countHanging", "()I"⟩, 8) := ⟨⟨by decide +kernel, by decide +kernel⟩, List.mem_of_getElem? (i := 16) (by decide +kernel), List.mem_of_getElem? (i := 670) (by decide +kernel), List.mem_of_getElem? (i := 671) (by decide +kernel)⟩
theorem lw_p33 : lw_okq (⟨"OffsetBookModel", "judges", "()V"⟩, 33) := ⟨⟨by decide +kernel, by decide +kernel⟩, List.mem_of_getElem? (i := 674) (by decide +kernel), List.mem_of_getElem? (i := 680) (by decide +kernel), List.mem_of_getElem? (i := 681) (by decide +kernel)⟩
theorem lw_p34 : lw_okq (⟨"OffsetBookModel", "judgedAs", "(I)I"⟩, 33) := ⟨⟨by decide +kernel, by decide +kernel⟩, List.mem_of_getElem? (i := 674) (by decide +kernel), List.mem_of_getElem? (i := 684) (by decide +kernel), List.mem_of_getElem? (i := 685) (by decide +kernel)⟩
theorem lw_p35 : lw_okq (⟨"OffsetBookModel", "joins", "(I)V"⟩, 33) := ⟨⟨by decide +kernel, by decide +kernel⟩, List.mem_of_getElem? (i := 674) (by decide +kernel), List.mem_of_getElem? (i := 689) (by decide +kernel), List.mem_of_getElem? (i := 690) (by decide +kernel)⟩
theorem lw_p36 : lw_okq (⟨"OffsetBookModel", "readsAll", "(Z)Z"⟩, 33) := ⟨⟨by decide +kernel, by decide +kernel⟩, List.mem_of_getElem? (i := 674) (by decide +kernel), List.mem_of_getElem? (i := 808) (by decide +kernel), List.mem_of_getElem? (i := 809) (by decide +kernel)⟩
theorem lw_p37 : lw_okq (⟨"OffsetBookModel", "readsStatement", "(I)Z"⟩, 33) := ⟨⟨by decide +kernel, by decide +kernel⟩, List.mem_of_getElem? (i := 674) (by decide +kernel), List.mem_of_getElem? (i := 812) (by decide +kernel), List.mem_of_getElem? (i := 813) (by decide +kernel)⟩
theorem lw_p38 : lw_okq (⟨"OffsetBookModel", "next", "()I"⟩, 33) := ⟨⟨by decide +kernel, by decide +kernel⟩, List.mem_of_getElem? (i := 674) (by decide +kernel), List.mem_of_getElem? (i := 816) (by decide +kernel), List.mem_of_getElem? (i := 817) (by decide +kernel)⟩
theorem lw_p39 : lw_okq (⟨"OffsetBookModel", "byteAt", "(I)I"⟩, 33) := ⟨⟨by decide +kernel, by decide +kernel⟩, List.mem_of_getElem? (i := 674) (by decide +kernel), List.mem_of_getElem? (i := 820) (by decide +kernel), List.mem_of_getElem? (i := 821) (by decide +kernel)⟩
theorem lw_p40 : lw_okq (⟨"OffsetBookModel", "fails", "(II)Z"⟩, 33) := ⟨⟨by decide +kernel, by decide +kernel⟩, List.mem_of_getElem? (i := 674) (by decide +kernel), List.mem_of_getElem? (i := 827) (by decide +kernel), List.mem_of_getElem? (i := 828) (by decide +kernel)⟩
theorem lw_p41 : lw_okq (⟨"OffsetBookModel", "readsName", "(I)Z"⟩, 33) := ⟨⟨by decide +kernel, by decide +kernel⟩, List.mem_of_getElem? (i := 674) (by decide +kernel), List.mem_of_getElem? (i := 831) (by decide +kernel), List.mem_of_getElem? (i := 832) (by decide +kernel)⟩
theorem lw_p42 : lw_okq (⟨"OffsetBookModel", "readsLetters", "()I"⟩, 33) := ⟨⟨by decide +kernel, by decide +kernel⟩, List.mem_of_getElem? (i := 674) (by decide +kernel), List.mem_of_getElem? (i := 835) (by decide +kernel), List.mem_of_getElem? (i := 836) (by decide +kernel)⟩
theorem lw_p43 : lw_okq (⟨"OffsetBookModel", "gaugeNamed", "(I)I"⟩, 33) := ⟨⟨by decide +kernel, by decide +kernel⟩, List.mem_of_getElem? (i := 674) (by decide +kernel), List.mem_of_getElem? (i := 839) (by decide +kernel), List.mem_of_getElem? (i := 840) (by decide +kernel)⟩
theorem lw_p44 : lw_okq (⟨"OffsetBookModel", "isNamed", "(I)Z"⟩, 33) := ⟨⟨by decide +kernel, by decide +kernel⟩, List.mem_of_getElem? (i := 674) (by decide +kernel), List.mem_of_getElem? (i := 843) (by decide +kernel), List.mem_of_getElem? (i := 844) (by decide +kernel)⟩
theorem lw_p45 : lw_okq (⟨"OffsetBookModel", "takes", "(I)Z"⟩, 33) := ⟨⟨by decide +kernel, by decide +kernel⟩, List.mem_of_getElem? (i := 674) (by decide +kernel), List.mem_of_getElem? (i := 847) (by decide +kernel), List.mem_of_getElem? (i := 848) (by decide +kernel)⟩
theorem lw_p46 : lw_okq (⟨"OffsetBookModel", "readsNumber", "()Z"⟩, 33) := ⟨⟨by decide +kernel, by decide +kernel⟩, List.mem_of_getElem? (i := 674) (by decide +kernel), List.mem_of_getElem? (i := 851) (by decide +kernel), List.mem_of_getElem? (i := 852) (by decide +kernel)⟩
theorem lw_p47 : lw_okq (⟨"OffsetBookModel", "keepsAct", "()V"⟩, 33) := ⟨⟨by decide +kernel, by decide +kernel⟩, List.mem_of_getElem? (i := 674) (by decide +kernel), List.mem_of_getElem? (i := 860) (by decide +kernel), List.mem_of_getElem? (i := 861) (by decide +kernel)⟩
def lw_privs_3 : List (MethodName × Nat) := [(⟨"OffsetBook", "countHanging", "()I"⟩, 8), (⟨"OffsetBookModel", "judges", "()V"⟩, 33), (⟨"OffsetBookModel", "judgedAs", "(I)I"⟩, 33), (⟨"OffsetBookModel", "joins", "(I)V"⟩, 33), (⟨"OffsetBookModel", "readsAll", "(Z)Z"⟩, 33), (⟨"OffsetBookModel", "readsStatement", "(I)Z"⟩, 33), (⟨"OffsetBookModel", "next", "()I"⟩, 33), (⟨"OffsetBookModel", "byteAt", "(I)I"⟩, 33), (⟨"OffsetBookModel", "fails", "(II)Z"⟩, 33), (⟨"OffsetBookModel", "readsName", "(I)Z"⟩, 33), (⟨"OffsetBookModel", "readsLetters", "()I"⟩, 33), (⟨"OffsetBookModel", "gaugeNamed", "(I)I"⟩, 33), (⟨"OffsetBookModel", "isNamed", "(I)Z"⟩, 33), (⟨"OffsetBookModel", "takes", "(I)Z"⟩, 33), (⟨"OffsetBookModel", "readsNumber", "()Z"⟩, 33), (⟨"OffsetBookModel", "keepsAct", "()V"⟩, 33)]
theorem lw_r3 : ∀ q ∈ lw_privs_3, lw_okq q := List.forall_mem_cons.mpr ⟨lw_p32, List.forall_mem_cons.mpr ⟨lw_p33, List.forall_mem_cons.mpr ⟨lw_p34, List.forall_mem_cons.mpr ⟨lw_p35, List.forall_mem_cons.mpr ⟨lw_p36, List.forall_mem_cons.mpr ⟨lw_p37, List.forall_mem_cons.mpr ⟨lw_p38, List.forall_mem_cons.mpr ⟨lw_p39, List.forall_mem_cons.mpr ⟨lw_p40, List.forall_mem_cons.mpr ⟨lw_p41, List.forall_mem_cons.mpr ⟨lw_p42, List.forall_mem_cons.mpr ⟨lw_p43, List.forall_mem_cons.mpr ⟨lw_p44, List.forall_mem_cons.mpr ⟨lw_p45, List.forall_mem_cons.mpr ⟨lw_p46, List.forall_mem_cons.mpr ⟨lw_p47, fun _ h => absurd h List.not_mem_nil⟩⟩⟩⟩⟩⟩⟩⟩⟩⟩⟩⟩⟩⟩⟩⟩
theorem lw_p48 : lw_okq (⟨"OffsetBookModel", "keepsTold", "()V"⟩, 33) := ⟨⟨by decide +kernel, by decide +kernel⟩, List.mem_of_getElem? (i := 674) (by decide +kernel), List.mem_of_getElem? (i := 864) (by decide +kernel), List.mem_of_getElem? (i := 865) (by decide +kernel)⟩
theorem lw_p49 : lw_okq (⟨"OffsetBookModel", "keeps", "(I)V"⟩, 33) := ⟨⟨by decide +kernel, by decide +kernel⟩, List.mem_of_getElem? (i := 674) (by decide +kernel), List.mem_of_getElem? (i := 868) (by decide +kernel), List.mem_of_getElem? (i := 869) (by decide +kernel)⟩
theorem lw_p50 : lw_okq (⟨"OffsetBookModel", "turns", "(IZ)I"⟩, 33) := ⟨⟨by decide +kernel, by decide +kernel⟩, List.mem_of_getElem? (i := 674) (by decide +kernel), List.mem_of_getElem? (i := 880) (by decide +kernel), List.mem_of_getElem? (i := 881) (by decide +kernel)⟩
theorem lw_p51 : lw_okq (⟨"OffsetBookModel", "isStatement", "(I)Z"⟩, 33) := ⟨⟨by decide +kernel, by decide +kernel⟩, List.mem_of_getElem? (i := 674) (by decide +kernel), List.mem_of_getElem? (i := 884) (by decide +kernel), List.mem_of_getElem? (i := 885) (by decide +kernel)⟩
theorem lw_p52 : lw_okq (⟨"OffsetBookModel", "standing", "()I"⟩, 33) := ⟨⟨by decide +kernel, by decide +kernel⟩, List.mem_of_getElem? (i := 674) (by decide +kernel), List.mem_of_getElem? (i := 888) (by decide +kernel), List.mem_of_getElem? (i := 889) (by decide +kernel)⟩
theorem lw_p53 : lw_okq (⟨"OffsetBookModel", "manyOf", "(I)I"⟩, 33) := ⟨⟨by decide +kernel, by decide +kernel⟩, List.mem_of_getElem? (i := 674) (by decide +kernel), List.mem_of_getElem? (i := 892) (by decide +kernel), List.mem_of_getElem? (i := 893) (by decide +kernel)⟩
theorem lw_p54 : lw_okq (⟨"OffsetBookModel", "goesBackTo", "(I)V"⟩, 33) := ⟨⟨by decide +kernel, by decide +kernel⟩, List.mem_of_getElem? (i := 674) (by decide +kernel), List.mem_of_getElem? (i := 904) (by decide +kernel), List.mem_of_getElem? (i := 905) (by decide +kernel)⟩
theorem lw_p55 : lw_okq (⟨"OffsetBookModel", "rely", "(I)I"⟩, 33) := ⟨⟨by decide +kernel, by decide +kernel⟩, List.mem_of_getElem? (i := 674) (by decide +kernel), List.mem_of_getElem? (i := 921) (by decide +kernel), List.mem_of_getElem? (i := 922) (by decide +kernel)⟩
theorem lw_p56 : lw_okq (⟨"OffsetBookModel", "isStanding", "(I)Z"⟩, 33) := ⟨⟨by decide +kernel, by decide +kernel⟩, List.mem_of_getElem? (i := 674) (by decide +kernel), List.mem_of_getElem? (i := 925) (by decide +kernel), List.mem_of_getElem? (i := 926) (by decide +kernel)⟩
theorem lw_p57 : lw_okq (⟨"OffsetBookModel", "reaches", "(II)I"⟩, 33) := ⟨⟨by decide +kernel, by decide +kernel⟩, List.mem_of_getElem? (i := 674) (by decide +kernel), List.mem_of_getElem? (i := 929) (by decide +kernel), List.mem_of_getElem? (i := 930) (by decide +kernel)⟩
theorem lw_p58 : lw_okq (⟨"OffsetBookModel", "sizeOf", "(I)I"⟩, 33) := ⟨⟨by decide +kernel, by decide +kernel⟩, List.mem_of_getElem? (i := 674) (by decide +kernel), List.mem_of_getElem? (i := 933) (by decide +kernel), List.mem_of_getElem? (i := 934) (by decide +kernel)⟩
theorem lw_p59 : lw_okq (⟨"OffsetBookModel", "isGauge", "(I)Z"⟩, 33) := ⟨⟨by decide +kernel, by decide +kernel⟩, List.mem_of_getElem? (i := 674) (by decide +kernel), List.mem_of_getElem? (i := 950) (by decide +kernel), List.mem_of_getElem? (i := 951) (by decide +kernel)⟩
theorem lw_p60 : lw_okq (⟨"OffsetBookModel", "laysOrder", "(I)I"⟩, 33) := ⟨⟨by decide +kernel, by decide +kernel⟩, List.mem_of_getElem? (i := 674) (by decide +kernel), List.mem_of_getElem? (i := 970) (by decide +kernel), List.mem_of_getElem? (i := 971) (by decide +kernel)⟩
theorem lw_p61 : lw_okq (⟨"OffsetBookModel", "isAhead", "(II)Z"⟩, 33) := ⟨⟨by decide +kernel, by decide +kernel⟩, List.mem_of_getElem? (i := 674) (by decide +kernel), List.mem_of_getElem? (i := 974) (by decide +kernel), List.mem_of_getElem? (i := 975) (by decide +kernel)⟩
theorem lw_p62 : lw_okq (⟨"OffsetBookModel", "laysChain", "(II)I"⟩, 33) := ⟨⟨by decide +kernel, by decide +kernel⟩, List.mem_of_getElem? (i := 674) (by decide +kernel), List.mem_of_getElem? (i := 1004) (by decide +kernel), List.mem_of_getElem? (i := 1005) (by decide +kernel)⟩
theorem lw_p63 : lw_okq (⟨"OffsetBookModel", "laysFar", "(I)V"⟩, 33) := ⟨⟨by decide +kernel, by decide +kernel⟩, List.mem_of_getElem? (i := 674) (by decide +kernel), List.mem_of_getElem? (i := 1008) (by decide +kernel), List.mem_of_getElem? (i := 1009) (by decide +kernel)⟩
def lw_privs_4 : List (MethodName × Nat) := [(⟨"OffsetBookModel", "keepsTold", "()V"⟩, 33), (⟨"OffsetBookModel", "keeps", "(I)V"⟩, 33), (⟨"OffsetBookModel", "turns", "(IZ)I"⟩, 33), (⟨"OffsetBookModel", "isStatement", "(I)Z"⟩, 33), (⟨"OffsetBookModel", "standing", "()I"⟩, 33), (⟨"OffsetBookModel", "manyOf", "(I)I"⟩, 33), (⟨"OffsetBookModel", "goesBackTo", "(I)V"⟩, 33), (⟨"OffsetBookModel", "rely", "(I)I"⟩, 33), (⟨"OffsetBookModel", "isStanding", "(I)Z"⟩, 33), (⟨"OffsetBookModel", "reaches", "(II)I"⟩, 33), (⟨"OffsetBookModel", "sizeOf", "(I)I"⟩, 33), (⟨"OffsetBookModel", "isGauge", "(I)Z"⟩, 33), (⟨"OffsetBookModel", "laysOrder", "(I)I"⟩, 33), (⟨"OffsetBookModel", "isAhead", "(II)Z"⟩, 33), (⟨"OffsetBookModel", "laysChain", "(II)I"⟩, 33), (⟨"OffsetBookModel", "laysFar", "(I)V"⟩, 33)]
theorem lw_r4 : ∀ q ∈ lw_privs_4, lw_okq q := List.forall_mem_cons.mpr ⟨lw_p48, List.forall_mem_cons.mpr ⟨lw_p49, List.forall_mem_cons.mpr ⟨lw_p50, List.forall_mem_cons.mpr ⟨lw_p51, List.forall_mem_cons.mpr ⟨lw_p52, List.forall_mem_cons.mpr ⟨lw_p53, List.forall_mem_cons.mpr ⟨lw_p54, List.forall_mem_cons.mpr ⟨lw_p55, List.forall_mem_cons.mpr ⟨lw_p56, List.forall_mem_cons.mpr ⟨lw_p57, List.forall_mem_cons.mpr ⟨lw_p58, List.forall_mem_cons.mpr ⟨lw_p59, List.forall_mem_cons.mpr ⟨lw_p60, List.forall_mem_cons.mpr ⟨lw_p61, List.forall_mem_cons.mpr ⟨lw_p62, List.forall_mem_cons.mpr ⟨lw_p63, fun _ h => absurd h List.not_mem_nil⟩⟩⟩⟩⟩⟩⟩⟩⟩⟩⟩⟩⟩⟩⟩⟩
theorem lw_p64 : lw_okq (⟨"OffsetBookModel", "isStep", "(II)Z"⟩, 33) := ⟨⟨by decide +kernel, by decide +kernel⟩, List.mem_of_getElem? (i := 674) (by decide +kernel), List.mem_of_getElem? (i := 1012) (by decide +kernel), List.mem_of_getElem? (i := 1013) (by decide +kernel)⟩
theorem lw_p65 : lw_okq (⟨"OffsetBookModel", "spreads", "(I)V"⟩, 33) := ⟨⟨by decide +kernel, by decide +kernel⟩, List.mem_of_getElem? (i := 674) (by decide +kernel), List.mem_of_getElem? (i := 1024) (by decide +kernel), List.mem_of_getElem? (i := 1025) (by decide +kernel)⟩
theorem lw_p66 : lw_okq (⟨"OffsetBookModel", "canGo", "(II)Z"⟩, 33) := ⟨⟨by decide +kernel, by decide +kernel⟩, List.mem_of_getElem? (i := 674) (by decide +kernel), List.mem_of_getElem? (i := 1028) (by decide +kernel), List.mem_of_getElem? (i := 1029) (by decide +kernel)⟩
theorem lw_p67 : lw_okq (⟨"OffsetBookModel", "laysPath", "(II)V"⟩, 33) := ⟨⟨by decide +kernel, by decide +kernel⟩, List.mem_of_getElem? (i := 674) (by decide +kernel), List.mem_of_getElem? (i := 1032) (by decide +kernel), List.mem_of_getElem? (i := 1033) (by decide +kernel)⟩
theorem lw_p68 : lw_okq (⟨"OffsetBookModel", "isCut", "(I)Z"⟩, 33) := ⟨⟨by decide +kernel, by decide +kernel⟩, List.mem_of_getElem? (i := 674) (by decide +kernel), List.mem_of_getElem? (i := 1036) (by decide +kernel), List.mem_of_getElem? (i := 1037) (by decide +kernel)⟩
theorem lw_p69 : lw_okq (⟨"OffsetBookModel", "groups", "()I"⟩, 33) := ⟨⟨by decide +kernel, by decide +kernel⟩, List.mem_of_getElem? (i := 674) (by decide +kernel), List.mem_of_getElem? (i := 1053) (by decide +kernel), List.mem_of_getElem? (i := 1054) (by decide +kernel)⟩
theorem lw_p70 : lw_okq (⟨"OffsetBookModel", "knownTwos", "()I"⟩, 33) := ⟨⟨by decide +kernel, by decide +kernel⟩, List.mem_of_getElem? (i := 674) (by decide +kernel), List.mem_of_getElem? (i := 1057) (by decide +kernel), List.mem_of_getElem? (i := 1058) (by decide +kernel)⟩
theorem lw_p71 : lw_okq (⟨"OffsetBookModel", "hanging", "()I"⟩, 33) := ⟨⟨by decide +kernel, by decide +kernel⟩, List.mem_of_getElem? (i := 674) (by decide +kernel), List.mem_of_getElem? (i := 1061) (by decide +kernel), List.mem_of_getElem? (i := 1062) (by decide +kernel)⟩
def lw_privs_5 : List (MethodName × Nat) := [(⟨"OffsetBookModel", "isStep", "(II)Z"⟩, 33), (⟨"OffsetBookModel", "spreads", "(I)V"⟩, 33), (⟨"OffsetBookModel", "canGo", "(II)Z"⟩, 33), (⟨"OffsetBookModel", "laysPath", "(II)V"⟩, 33), (⟨"OffsetBookModel", "isCut", "(I)Z"⟩, 33), (⟨"OffsetBookModel", "groups", "()I"⟩, 33), (⟨"OffsetBookModel", "knownTwos", "()I"⟩, 33), (⟨"OffsetBookModel", "hanging", "()I"⟩, 33)]
theorem lw_r5 : ∀ q ∈ lw_privs_5, lw_okq q := List.forall_mem_cons.mpr ⟨lw_p64, List.forall_mem_cons.mpr ⟨lw_p65, List.forall_mem_cons.mpr ⟨lw_p66, List.forall_mem_cons.mpr ⟨lw_p67, List.forall_mem_cons.mpr ⟨lw_p68, List.forall_mem_cons.mpr ⟨lw_p69, List.forall_mem_cons.mpr ⟨lw_p70, List.forall_mem_cons.mpr ⟨lw_p71, fun _ h => absurd h List.not_mem_nil⟩⟩⟩⟩⟩⟩⟩⟩
def lw_privs : List (MethodName × Nat) := lw_privs_1 ++ (lw_privs_2 ++ (lw_privs_3 ++ (lw_privs_4 ++ (lw_privs_5))))
def lw_tbl : List Cond := k2_sels lw_privs ++ tables_1
theorem lw_privs_ok : ∀ q ∈ lw_privs, lw_okq q := by
  show ∀ q ∈ lw_privs_1 ++ (lw_privs_2 ++ (lw_privs_3 ++ (lw_privs_4 ++ (lw_privs_5)))), lw_okq q
  exact List.forall_mem_append.mpr ⟨lw_r1, List.forall_mem_append.mpr ⟨lw_r2, List.forall_mem_append.mpr ⟨lw_r3, List.forall_mem_append.mpr ⟨lw_r4, lw_r5⟩⟩⟩⟩
/-- the streams that the claim lets the run draw from -/
abbrev lw_cs : List Choice := [Jvm.Choice.named "NaN.bits"]
theorem lw_bits : nanBits ∈ lw_cs := by first | decide | exact List.mem_cons_self | simp [lw_cs, nanBits]

def ia_Ts_0 : List Cond := [(Jvm.Cond.selects "OffsetBook$Reader" (⟨"OffsetBook$Reader", "begin", "(LOffsetBook$Told;)V"⟩ : MethodName) (⟨"OffsetBook$Reader", "begin", "(LOffsetBook$Told;)V"⟩ : MethodName)), (Jvm.Cond.selects "OffsetBook$Reader" (⟨"OffsetBook$Reader", "readStatement", "(LOffsetBook$Told;)V"⟩ : MethodName) (⟨"OffsetBook$Reader", "readStatement", "(LOffsetBook$Told;)V"⟩ : MethodName)), (Jvm.Cond.selects "OffsetBook$Reader" (⟨"OffsetBook$Reader", "readName", "(LOffsetBook$Told;)I"⟩ : MethodName) (⟨"OffsetBook$Reader", "readName", "(LOffsetBook$Told;)I"⟩ : MethodName)), (Jvm.Cond.selects "OffsetBook$Reader" (⟨"OffsetBook$Reader", "fail", "(II)V"⟩ : MethodName) (⟨"OffsetBook$Reader", "fail", "(II)V"⟩ : MethodName)), (Jvm.Cond.selects "OffsetBook$Told" (⟨"OffsetBook$Told", "isNameAt", "(ILOffsetBook$Tape;I)Z"⟩ : MethodName) (⟨"OffsetBook$Told", "isNameAt", "(ILOffsetBook$Tape;I)Z"⟩ : MethodName)), (Jvm.Cond.selects "OffsetBook$Reader" (⟨"OffsetBook$Reader", "isFull", "(LOffsetBook$Told;)Z"⟩ : MethodName) (⟨"OffsetBook$Reader", "isFull", "(LOffsetBook$Told;)Z"⟩ : MethodName)), (Jvm.Cond.selects "OffsetBook$Reader" (⟨"OffsetBook$Reader", "pass", "(C)V"⟩ : MethodName) (⟨"OffsetBook$Reader", "pass", "(C)V"⟩ : MethodName)), (Jvm.Cond.selects "OffsetBook$Reader" (⟨"OffsetBook$Reader", "readRightSide", "(LOffsetBook$Told;I)V"⟩ : MethodName) (⟨"OffsetBook$Reader", "readRightSide", "(LOffsetBook$Told;I)V"⟩ : MethodName)), (Jvm.Cond.selects "OffsetBook$Reader" (⟨"OffsetBook$Reader", "readAmount", "(Z)J"⟩ : MethodName) (⟨"OffsetBook$Reader", "readAmount", "(Z)J"⟩ : MethodName)), (Jvm.Cond.selects "OffsetBook$Reader" (⟨"OffsetBook$Reader", "readNumber", "()J"⟩ : MethodName) (⟨"OffsetBook$Reader", "readNumber", "()J"⟩ : MethodName)), (Jvm.Cond.selects "OffsetBook" (⟨"OffsetBook", "judgeAnew", "()V"⟩ : MethodName) (⟨"OffsetBook", "judgeAnew", "()V"⟩ : MethodName)), (Jvm.Cond.selects "OffsetBook$Groups" (⟨"OffsetBook$Groups", "join", "(IIJ)V"⟩ : MethodName) (⟨"OffsetBook$Groups", "join", "(IIJ)V"⟩ : MethodName)), (Jvm.Cond.selects "OffsetBook$Groups" (⟨"OffsetBook$Groups", "move", "(IIJ)V"⟩ : MethodName) (⟨"OffsetBook$Groups", "move", "(IIJ)V"⟩ : MethodName)), (Jvm.Cond.selects "OffsetBook$Web" (⟨"OffsetBook$Web", "sortWays", "()V"⟩ : MethodName) (⟨"OffsetBook$Web", "sortWays", "()V"⟩ : MethodName)), (Jvm.Cond.selects "OffsetBook" (⟨"OffsetBook", "isStatement", "(I)Z"⟩ : MethodName) (⟨"OffsetBook", "isStatement", "(I)Z"⟩ : MethodName)), (Jvm.Cond.selects "OffsetBook" (⟨"OffsetBook", "turn", "(I)I"⟩ : MethodName) (⟨"OffsetBook", "turn", "(I)I"⟩ : MethodName)), (Jvm.Cond.selects "OffsetBook" (⟨"OffsetBook", "hangs", "(I)Z"⟩ : MethodName) (⟨"OffsetBook", "hangs", "(I)Z"⟩ : MethodName)), (Jvm.Cond.selects "OffsetBook" (⟨"OffsetBook", "relyOn", "(I)I"⟩ : MethodName) (⟨"OffsetBook", "relyOn", "(I)I"⟩ : MethodName)), (Jvm.Cond.selects "OffsetBook$Web" (⟨"OffsetBook$Web", "forgetReached", "()V"⟩ : MethodName) (⟨"OffsetBook$Web", "forgetReached", "()V"⟩ : MethodName)), (Jvm.Cond.selects "OffsetBook$Web" (⟨"OffsetBook$Web", "reachFrom", "(I)V"⟩ : MethodName) (⟨"OffsetBook$Web", "reachFrom", "(I)V"⟩ : MethodName)), (Jvm.Cond.selects "OffsetBook$Web" (⟨"OffsetBook$Web", "mark", "(III)V"⟩ : MethodName) (⟨"OffsetBook$Web", "mark", "(III)V"⟩ : MethodName)), (Jvm.Cond.selects "OffsetBook$Web" (⟨"OffsetBook$Web", "hasRoom", "(I)Z"⟩ : MethodName) (⟨"OffsetBook$Web", "hasRoom", "(I)Z"⟩ : MethodName)), (Jvm.Cond.selects "OffsetBook$Web" (⟨"OffsetBook$Web", "isStanding", "(I)Z"⟩ : MethodName) (⟨"OffsetBook$Web", "isStanding", "(I)Z"⟩ : MethodName)), (Jvm.Cond.selects "OffsetBook$Web" (⟨"OffsetBook$Web", "lowerEnd", "(I)I"⟩ : MethodName) (⟨"OffsetBook$Web", "lowerEnd", "(I)I"⟩ : MethodName)), (Jvm.Cond.selects "OffsetBook$Web" (⟨"OffsetBook$Web", "markRing", "(II)V"⟩ : MethodName) (⟨"OffsetBook$Web", "markRing", "(II)V"⟩ : MethodName)), (Jvm.Cond.selects "OffsetBook$Web" (⟨"OffsetBook$Web", "above", "(I)I"⟩ : MethodName) (⟨"OffsetBook$Web", "above", "(I)I"⟩ : MethodName)), (Jvm.Cond.selects "OffsetBook$Web" (⟨"OffsetBook$Web", "addUpBelow", "()V"⟩ : MethodName) (⟨"OffsetBook$Web", "addUpBelow", "()V"⟩ : MethodName)), (Jvm.Cond.selects "OffsetBook$Web" (⟨"OffsetBook$Web", "fillRely", "()V"⟩ : MethodName) (⟨"OffsetBook$Web", "fillRely", "()V"⟩ : MethodName)), (Jvm.Cond.selects "OffsetBook" (⟨"OffsetBook", "isGauge", "(I)Z"⟩ : MethodName) (⟨"OffsetBook", "isGauge", "(I)Z"⟩ : MethodName)), (Jvm.Cond.selects "OffsetBook$Web" (⟨"OffsetBook$Web", "firstNearer", "(I)I"⟩ : MethodName) (⟨"OffsetBook$Web", "firstNearer", "(I)I"⟩ : MethodName)), (Jvm.Cond.selects "OffsetBook$Web" (⟨"OffsetBook$Web", "flowAlong", "(I)V"⟩ : MethodName) (⟨"OffsetBook$Web", "flowAlong", "(I)V"⟩ : MethodName)), (Jvm.Cond.selects "OffsetBook$Web" (⟨"OffsetBook$Web", "isReached", "(I)Z"⟩ : MethodName) (⟨"OffsetBook$Web", "isReached", "(I)Z"⟩ : MethodName)), (Jvm.Cond.selects "OffsetBook" (⟨"OffsetBook", "countHanging", "()I"⟩ : MethodName) (⟨"OffsetBook", "countHanging", "()I"⟩ : MethodName)), (Jvm.Cond.selects "OffsetBookModel" (⟨"OffsetBookModel", "judges", "()V"⟩ : MethodName) (⟨"OffsetBookModel", "judges", "()V"⟩ : MethodName)), (Jvm.Cond.selects "OffsetBookModel" (⟨"OffsetBookModel", "judgedAs", "(I)I"⟩ : MethodName) (⟨"OffsetBookModel", "judgedAs", "(I)I"⟩ : MethodName)), (Jvm.Cond.selects "OffsetBookModel" (⟨"OffsetBookModel", "joins", "(I)V"⟩ : MethodName) (⟨"OffsetBookModel", "joins", "(I)V"⟩ : MethodName)), (Jvm.Cond.selects "OffsetBookModel" (⟨"OffsetBookModel", "readsAll", "(Z)Z"⟩ : MethodName) (⟨"OffsetBookModel", "readsAll", "(Z)Z"⟩ : MethodName)), (Jvm.Cond.selects "OffsetBookModel" (⟨"OffsetBookModel", "readsStatement", "(I)Z"⟩ : MethodName) (⟨"OffsetBookModel", "readsStatement", "(I)Z"⟩ : MethodName)), (Jvm.Cond.selects "OffsetBookModel" (⟨"OffsetBookModel", "next", "()I"⟩ : MethodName) (⟨"OffsetBookModel", "next", "()I"⟩ : MethodName)), (Jvm.Cond.selects "OffsetBookModel" (⟨"OffsetBookModel", "byteAt", "(I)I"⟩ : MethodName) (⟨"OffsetBookModel", "byteAt", "(I)I"⟩ : MethodName)), (Jvm.Cond.selects "OffsetBookModel" (⟨"OffsetBookModel", "fails", "(II)Z"⟩ : MethodName) (⟨"OffsetBookModel", "fails", "(II)Z"⟩ : MethodName)), (Jvm.Cond.selects "OffsetBookModel" (⟨"OffsetBookModel", "readsName", "(I)Z"⟩ : MethodName) (⟨"OffsetBookModel", "readsName", "(I)Z"⟩ : MethodName)), (Jvm.Cond.selects "OffsetBookModel" (⟨"OffsetBookModel", "readsLetters", "()I"⟩ : MethodName) (⟨"OffsetBookModel", "readsLetters", "()I"⟩ : MethodName)), (Jvm.Cond.selects "OffsetBookModel" (⟨"OffsetBookModel", "gaugeNamed", "(I)I"⟩ : MethodName) (⟨"OffsetBookModel", "gaugeNamed", "(I)I"⟩ : MethodName)), (Jvm.Cond.selects "OffsetBookModel" (⟨"OffsetBookModel", "isNamed", "(I)Z"⟩ : MethodName) (⟨"OffsetBookModel", "isNamed", "(I)Z"⟩ : MethodName)), (Jvm.Cond.selects "OffsetBookModel" (⟨"OffsetBookModel", "takes", "(I)Z"⟩ : MethodName) (⟨"OffsetBookModel", "takes", "(I)Z"⟩ : MethodName)), (Jvm.Cond.selects "OffsetBookModel" (⟨"OffsetBookModel", "readsNumber", "()Z"⟩ : MethodName) (⟨"OffsetBookModel", "readsNumber", "()Z"⟩ : MethodName)), (Jvm.Cond.selects "OffsetBookModel" (⟨"OffsetBookModel", "keepsAct", "()V"⟩ : MethodName) (⟨"OffsetBookModel", "keepsAct", "()V"⟩ : MethodName)), (Jvm.Cond.selects "OffsetBookModel" (⟨"OffsetBookModel", "keepsTold", "()V"⟩ : MethodName) (⟨"OffsetBookModel", "keepsTold", "()V"⟩ : MethodName)), (Jvm.Cond.selects "OffsetBookModel" (⟨"OffsetBookModel", "keeps", "(I)V"⟩ : MethodName) (⟨"OffsetBookModel", "keeps", "(I)V"⟩ : MethodName)), (Jvm.Cond.selects "OffsetBookModel" (⟨"OffsetBookModel", "turns", "(IZ)I"⟩ : MethodName) (⟨"OffsetBookModel", "turns", "(IZ)I"⟩ : MethodName)), (Jvm.Cond.selects "OffsetBookModel" (⟨"OffsetBookModel", "isStatement", "(I)Z"⟩ : MethodName) (⟨"OffsetBookModel", "isStatement", "(I)Z"⟩ : MethodName)), (Jvm.Cond.selects "OffsetBookModel" (⟨"OffsetBookModel", "standing", "()I"⟩ : MethodName) (⟨"OffsetBookModel", "standing", "()I"⟩ : MethodName)), (Jvm.Cond.selects "OffsetBookModel" (⟨"OffsetBookModel", "manyOf", "(I)I"⟩ : MethodName) (⟨"OffsetBookModel", "manyOf", "(I)I"⟩ : MethodName)), (Jvm.Cond.selects "OffsetBookModel" (⟨"OffsetBookModel", "goesBackTo", "(I)V"⟩ : MethodName) (⟨"OffsetBookModel", "goesBackTo", "(I)V"⟩ : MethodName)), (Jvm.Cond.selects "OffsetBookModel" (⟨"OffsetBookModel", "rely", "(I)I"⟩ : MethodName) (⟨"OffsetBookModel", "rely", "(I)I"⟩ : MethodName)), (Jvm.Cond.selects "OffsetBookModel" (⟨"OffsetBookModel", "isStanding", "(I)Z"⟩ : MethodName) (⟨"OffsetBookModel", "isStanding", "(I)Z"⟩ : MethodName)), (Jvm.Cond.selects "OffsetBookModel" (⟨"OffsetBookModel", "reaches", "(II)I"⟩ : MethodName) (⟨"OffsetBookModel", "reaches", "(II)I"⟩ : MethodName)), (Jvm.Cond.selects "OffsetBookModel" (⟨"OffsetBookModel", "sizeOf", "(I)I"⟩ : MethodName) (⟨"OffsetBookModel", "sizeOf", "(I)I"⟩ : MethodName)), (Jvm.Cond.selects "OffsetBookModel" (⟨"OffsetBookModel", "isGauge", "(I)Z"⟩ : MethodName) (⟨"OffsetBookModel", "isGauge", "(I)Z"⟩ : MethodName))]
def ia_Ts_1 : List Cond := [(Jvm.Cond.selects "OffsetBookModel" (⟨"OffsetBookModel", "laysOrder", "(I)I"⟩ : MethodName) (⟨"OffsetBookModel", "laysOrder", "(I)I"⟩ : MethodName)), (Jvm.Cond.selects "OffsetBookModel" (⟨"OffsetBookModel", "isAhead", "(II)Z"⟩ : MethodName) (⟨"OffsetBookModel", "isAhead", "(II)Z"⟩ : MethodName)), (Jvm.Cond.selects "OffsetBookModel" (⟨"OffsetBookModel", "laysChain", "(II)I"⟩ : MethodName) (⟨"OffsetBookModel", "laysChain", "(II)I"⟩ : MethodName)), (Jvm.Cond.selects "OffsetBookModel" (⟨"OffsetBookModel", "laysFar", "(I)V"⟩ : MethodName) (⟨"OffsetBookModel", "laysFar", "(I)V"⟩ : MethodName)), (Jvm.Cond.selects "OffsetBookModel" (⟨"OffsetBookModel", "isStep", "(II)Z"⟩ : MethodName) (⟨"OffsetBookModel", "isStep", "(II)Z"⟩ : MethodName)), (Jvm.Cond.selects "OffsetBookModel" (⟨"OffsetBookModel", "spreads", "(I)V"⟩ : MethodName) (⟨"OffsetBookModel", "spreads", "(I)V"⟩ : MethodName)), (Jvm.Cond.selects "OffsetBookModel" (⟨"OffsetBookModel", "canGo", "(II)Z"⟩ : MethodName) (⟨"OffsetBookModel", "canGo", "(II)Z"⟩ : MethodName)), (Jvm.Cond.selects "OffsetBookModel" (⟨"OffsetBookModel", "laysPath", "(II)V"⟩ : MethodName) (⟨"OffsetBookModel", "laysPath", "(II)V"⟩ : MethodName)), (Jvm.Cond.selects "OffsetBookModel" (⟨"OffsetBookModel", "isCut", "(I)Z"⟩ : MethodName) (⟨"OffsetBookModel", "isCut", "(I)Z"⟩ : MethodName)), (Jvm.Cond.selects "OffsetBookModel" (⟨"OffsetBookModel", "groups", "()I"⟩ : MethodName) (⟨"OffsetBookModel", "groups", "()I"⟩ : MethodName)), (Jvm.Cond.selects "OffsetBookModel" (⟨"OffsetBookModel", "knownTwos", "()I"⟩ : MethodName) (⟨"OffsetBookModel", "knownTwos", "()I"⟩ : MethodName)), (Jvm.Cond.selects "OffsetBookModel" (⟨"OffsetBookModel", "hanging", "()I"⟩ : MethodName) (⟨"OffsetBookModel", "hanging", "()I"⟩ : MethodName)), (Jvm.Cond.initialized "OffsetBookLaw"), (Jvm.Cond.initialized "OffsetBook"), (Jvm.Cond.initialized "OffsetBook$Reader"), (Jvm.Cond.initialized "OffsetBook$Tape"), (Jvm.Cond.initialized "OffsetBook$Told"), (Jvm.Cond.initialized "OffsetBook$Groups"), (Jvm.Cond.initialized "OffsetBook$Web"), (Jvm.Cond.initialized "java/util/Arrays"), (Jvm.Cond.initialized "OffsetBook$Acts"), (Jvm.Cond.initialized "OffsetBook$Pins"), (Jvm.Cond.initialized "OffsetBookModel"), (Jvm.Cond.initialized "java/lang/System"), (Jvm.Cond.initialized "java/lang/Math"), (Jvm.Cond.initialized "java/lang/Number"), (Jvm.Cond.initialized "java/lang/Double"), (Jvm.Cond.methodLink "OffsetBookLaw" (9 : Nat) ({ cls := "OffsetBook", name := "<init>", desc := "()V" } : Jvm.MethodName)), (Jvm.Cond.instanceMethod ({ cls := "OffsetBook", name := "<init>", desc := "()V" } : Jvm.MethodName)), (Jvm.Cond.code ({ cls := "OffsetBook", name := "<init>", desc := "()V" } : Jvm.MethodName) prog_1_method_1_code (1 : Nat) (Option.none : Option Jvm.ClassFile.FieldType)), (Jvm.Cond.methodLink "OffsetBook" (3 : Nat) ({ cls := "java/lang/Object", name := "<init>", desc := "()V" } : Jvm.MethodName)), (Jvm.Cond.instanceMethod ({ cls := "java/lang/Object", name := "<init>", desc := "()V" } : Jvm.MethodName)), (Jvm.Cond.code ({ cls := "java/lang/Object", name := "<init>", desc := "()V" } : Jvm.MethodName) object_method_1_code (1 : Nat) (Option.none : Option Jvm.ClassFile.FieldType)), (Jvm.Cond.instanceMethod ({ cls := "OffsetBook$Reader", name := "<init>", desc := "()V" } : Jvm.MethodName)), (Jvm.Cond.code ({ cls := "OffsetBook$Reader", name := "<init>", desc := "()V" } : Jvm.MethodName) prog_5_method_1_code (1 : Nat) (Option.none : Option Jvm.ClassFile.FieldType)), (Jvm.Cond.methodLink "OffsetBook$Reader" (3 : Nat) ({ cls := "java/lang/Object", name := "<init>", desc := "()V" } : Jvm.MethodName)), (Jvm.Cond.instanceMethod ({ cls := "OffsetBook$Tape", name := "<init>", desc := "()V" } : Jvm.MethodName)), (Jvm.Cond.code ({ cls := "OffsetBook$Tape", name := "<init>", desc := "()V" } : Jvm.MethodName) prog_6_method_1_code (1 : Nat) (Option.none : Option Jvm.ClassFile.FieldType)), (Jvm.Cond.methodLink "OffsetBook$Tape" (3 : Nat) ({ cls := "java/lang/Object", name := "<init>", desc := "()V" } : Jvm.MethodName)), (Jvm.Cond.fieldLink "OffsetBook$Tape" (9 : Nat) "OffsetBook$Tape" "bytes" "[B"), (Jvm.Cond.fieldLink "OffsetBook$Tape" (15 : Nat) "OffsetBook$Tape" "length" "I"), (Jvm.Cond.fieldLink "OffsetBook$Tape" (19 : Nat) "OffsetBook$Tape" "place" "I"), (Jvm.Cond.laysFinal "OffsetBook$Tape" "OffsetBook$Tape" "bytes" "[B"), (Jvm.Cond.lays "OffsetBook$Tape" "OffsetBook$Tape" "length" "I"), (Jvm.Cond.lays "OffsetBook$Tape" "OffsetBook$Tape" "place" "I"), (Jvm.Cond.fieldLink "OffsetBook$Reader" (12 : Nat) "OffsetBook$Reader" "tape" "LOffsetBook$Tape;"), (Jvm.Cond.fieldLink "OffsetBook$Reader" (18 : Nat) "OffsetBook$Reader" "gauges" "I"), (Jvm.Cond.fieldLink "OffsetBook$Reader" (22 : Nat) "OffsetBook$Reader" "statements" "I"), (Jvm.Cond.fieldLink "OffsetBook$Reader" (25 : Nat) "OffsetBook$Reader" "fault" "I"), (Jvm.Cond.laysFinal "OffsetBook$Reader" "OffsetBook$Reader" "tape" "LOffsetBook$Tape;"), (Jvm.Cond.lays "OffsetBook$Reader" "OffsetBook$Reader" "gauges" "I"), (Jvm.Cond.lays "OffsetBook$Reader" "OffsetBook$Reader" "statements" "I"), (Jvm.Cond.lays "OffsetBook$Reader" "OffsetBook$Reader" "fault" "I"), (Jvm.Cond.instanceMethod ({ cls := "OffsetBook$Told", name := "<init>", desc := "()V" } : Jvm.MethodName)), (Jvm.Cond.code ({ cls := "OffsetBook$Told", name := "<init>", desc := "()V" } : Jvm.MethodName) prog_7_method_1_code (1 : Nat) (Option.none : Option Jvm.ClassFile.FieldType)), (Jvm.Cond.methodLink "OffsetBook$Told" (3 : Nat) ({ cls := "java/lang/Object", name := "<init>", desc := "()V" } : Jvm.MethodName)), (Jvm.Cond.fieldLink "OffsetBook$Told" (9 : Nat) "OffsetBook$Told" "letters" "[B"), (Jvm.Cond.fieldLink "OffsetBook$Told" (15 : Nat) "OffsetBook$Told" "lengths" "[I"), (Jvm.Cond.fieldLink "OffsetBook$Told" (19 : Nat) "OffsetBook$Told" "first" "[I"), (Jvm.Cond.fieldLink "OffsetBook$Told" (22 : Nat) "OffsetBook$Told" "second" "[I")]
def ia_Ts_2 : List Cond := [(Jvm.Cond.fieldLink "OffsetBook$Told" (25 : Nat) "OffsetBook$Told" "amount" "[J"), (Jvm.Cond.fieldLink "OffsetBook$Told" (29 : Nat) "OffsetBook$Told" "retracted" "[Z"), (Jvm.Cond.fieldLink "OffsetBook$Told" (33 : Nat) "OffsetBook$Told" "gauges" "I"), (Jvm.Cond.fieldLink "OffsetBook$Told" (37 : Nat) "OffsetBook$Told" "statements" "I"), (Jvm.Cond.laysFinal "OffsetBook$Told" "OffsetBook$Told" "letters" "[B"), (Jvm.Cond.laysFinal "OffsetBook$Told" "OffsetBook$Told" "lengths" "[I"), (Jvm.Cond.laysFinal "OffsetBook$Told" "OffsetBook$Told" "first" "[I"), (Jvm.Cond.laysFinal "OffsetBook$Told" "OffsetBook$Told" "second" "[I"), (Jvm.Cond.laysFinal "OffsetBook$Told" "OffsetBook$Told" "amount" "[J"), (Jvm.Cond.laysFinal "OffsetBook$Told" "OffsetBook$Told" "retracted" "[Z"), (Jvm.Cond.lays "OffsetBook$Told" "OffsetBook$Told" "gauges" "I"), (Jvm.Cond.lays "OffsetBook$Told" "OffsetBook$Told" "statements" "I"), (Jvm.Cond.methodLink "OffsetBook" (27 : Nat) ({ cls := "OffsetBook$Groups", name := "<init>", desc := "()V" } : Jvm.MethodName)), (Jvm.Cond.instanceMethod ({ cls := "OffsetBook$Groups", name := "<init>", desc := "()V" } : Jvm.MethodName)), (Jvm.Cond.code ({ cls := "OffsetBook$Groups", name := "<init>", desc := "()V" } : Jvm.MethodName) prog_3_method_1_code (2 : Nat) (Option.none : Option Jvm.ClassFile.FieldType)), (Jvm.Cond.methodLink "OffsetBook$Groups" (3 : Nat) ({ cls := "java/lang/Object", name := "<init>", desc := "()V" } : Jvm.MethodName)), (Jvm.Cond.fieldLink "OffsetBook$Groups" (9 : Nat) "OffsetBook$Groups" "verdict" "[I"), (Jvm.Cond.fieldLink "OffsetBook$Groups" (15 : Nat) "OffsetBook$Groups" "least" "[I"), (Jvm.Cond.fieldLink "OffsetBook$Groups" (18 : Nat) "OffsetBook$Groups" "offset" "[J"), (Jvm.Cond.laysFinal "OffsetBook$Groups" "OffsetBook$Groups" "verdict" "[I"), (Jvm.Cond.laysFinal "OffsetBook$Groups" "OffsetBook$Groups" "least" "[I"), (Jvm.Cond.laysFinal "OffsetBook$Groups" "OffsetBook$Groups" "offset" "[J"), (Jvm.Cond.methodLink "OffsetBook" (34 : Nat) ({ cls := "OffsetBook$Web", name := "<init>", desc := "()V" } : Jvm.MethodName)), (Jvm.Cond.instanceMethod ({ cls := "OffsetBook$Web", name := "<init>", desc := "()V" } : Jvm.MethodName)), (Jvm.Cond.code ({ cls := "OffsetBook$Web", name := "<init>", desc := "()V" } : Jvm.MethodName) prog_8_method_1_code (1 : Nat) (Option.none : Option Jvm.ClassFile.FieldType)), (Jvm.Cond.methodLink "OffsetBook$Web" (3 : Nat) ({ cls := "java/lang/Object", name := "<init>", desc := "()V" } : Jvm.MethodName)), (Jvm.Cond.methodLink "OffsetBook$Web" (56 : Nat) ({ cls := "java/util/Arrays", name := "fill", desc := "([II)V" } : Jvm.MethodName)), (Jvm.Cond.static ({ cls := "java/util/Arrays", name := "fill", desc := "([II)V" } : Jvm.MethodName)), (Jvm.Cond.code ({ cls := "java/util/Arrays", name := "fill", desc := "([II)V" } : Jvm.MethodName) prog_15_method_103_code (4 : Nat) (Option.none : Option Jvm.ClassFile.FieldType)), (Jvm.Cond.fieldLink "OffsetBook$Web" (11 : Nat) "OffsetBook$Web" "leads" "[I"), (Jvm.Cond.fieldLink "OffsetBook$Web" (15 : Nat) "OffsetBook$Web" "ways" "[I"), (Jvm.Cond.fieldLink "OffsetBook$Web" (18 : Nat) "OffsetBook$Web" "begins" "[I"), (Jvm.Cond.fieldLink "OffsetBook$Web" (21 : Nat) "OffsetBook$Web" "sorted" "[I"), (Jvm.Cond.fieldLink "OffsetBook$Web" (24 : Nat) "OffsetBook$Web" "row" "[I"), (Jvm.Cond.fieldLink "OffsetBook$Web" (27 : Nat) "OffsetBook$Web" "times" "[I"), (Jvm.Cond.fieldLink "OffsetBook$Web" (30 : Nat) "OffsetBook$Web" "reached" "[I"), (Jvm.Cond.fieldLink "OffsetBook$Web" (33 : Nat) "OffsetBook$Web" "howManyReached" "I"), (Jvm.Cond.fieldLink "OffsetBook$Web" (37 : Nat) "OffsetBook$Web" "steps" "[I"), (Jvm.Cond.fieldLink "OffsetBook$Web" (40 : Nat) "OffsetBook$Web" "reachedBy" "[I"), (Jvm.Cond.fieldLink "OffsetBook$Web" (43 : Nat) "OffsetBook$Web" "flow" "[I"), (Jvm.Cond.fieldLink "OffsetBook$Web" (46 : Nat) "OffsetBook$Web" "onRing" "[Z"), (Jvm.Cond.fieldLink "OffsetBook$Web" (50 : Nat) "OffsetBook$Web" "below" "[I"), (Jvm.Cond.fieldLink "OffsetBook$Web" (53 : Nat) "OffsetBook$Web" "rely" "[I"), (Jvm.Cond.laysFinal "OffsetBook$Web" "OffsetBook$Web" "leads" "[I"), (Jvm.Cond.laysFinal "OffsetBook$Web" "OffsetBook$Web" "ways" "[I"), (Jvm.Cond.laysFinal "OffsetBook$Web" "OffsetBook$Web" "begins" "[I"), (Jvm.Cond.laysFinal "OffsetBook$Web" "OffsetBook$Web" "sorted" "[I"), (Jvm.Cond.laysFinal "OffsetBook$Web" "OffsetBook$Web" "row" "[I"), (Jvm.Cond.laysFinal "OffsetBook$Web" "OffsetBook$Web" "times" "[I"), (Jvm.Cond.laysFinal "OffsetBook$Web" "OffsetBook$Web" "reached" "[I"), (Jvm.Cond.lays "OffsetBook$Web" "OffsetBook$Web" "howManyReached" "I"), (Jvm.Cond.laysFinal "OffsetBook$Web" "OffsetBook$Web" "steps" "[I"), (Jvm.Cond.laysFinal "OffsetBook$Web" "OffsetBook$Web" "reachedBy" "[I"), (Jvm.Cond.laysFinal "OffsetBook$Web" "OffsetBook$Web" "flow" "[I"), (Jvm.Cond.laysFinal "OffsetBook$Web" "OffsetBook$Web" "onRing" "[Z"), (Jvm.Cond.laysFinal "OffsetBook$Web" "OffsetBook$Web" "below" "[I"), (Jvm.Cond.laysFinal "OffsetBook$Web" "OffsetBook$Web" "rely" "[I"), (Jvm.Cond.instanceMethod ({ cls := "OffsetBook$Acts", name := "<init>", desc := "()V" } : Jvm.MethodName)), (Jvm.Cond.code ({ cls := "OffsetBook$Acts", name := "<init>", desc := "()V" } : Jvm.MethodName) prog_2_method_1_code (1 : Nat) (Option.none : Option Jvm.ClassFile.FieldType)), (Jvm.Cond.methodLink "OffsetBook$Acts" (3 : Nat) ({ cls := "java/lang/Object", name := "<init>", desc := "()V" } : Jvm.MethodName))]
def ia_Ts_3 : List Cond := [(Jvm.Cond.fieldLink "OffsetBook$Acts" (9 : Nat) "OffsetBook$Acts" "turned" "[I"), (Jvm.Cond.fieldLink "OffsetBook$Acts" (15 : Nat) "OffsetBook$Acts" "gaugesAhead" "[I"), (Jvm.Cond.fieldLink "OffsetBook$Acts" (18 : Nat) "OffsetBook$Acts" "statementsAhead" "[I"), (Jvm.Cond.fieldLink "OffsetBook$Acts" (21 : Nat) "OffsetBook$Acts" "next" "I"), (Jvm.Cond.fieldLink "OffsetBook$Acts" (25 : Nat) "OffsetBook$Acts" "undoable" "I"), (Jvm.Cond.laysFinal "OffsetBook$Acts" "OffsetBook$Acts" "turned" "[I"), (Jvm.Cond.laysFinal "OffsetBook$Acts" "OffsetBook$Acts" "gaugesAhead" "[I"), (Jvm.Cond.laysFinal "OffsetBook$Acts" "OffsetBook$Acts" "statementsAhead" "[I"), (Jvm.Cond.lays "OffsetBook$Acts" "OffsetBook$Acts" "next" "I"), (Jvm.Cond.lays "OffsetBook$Acts" "OffsetBook$Acts" "undoable" "I"), (Jvm.Cond.methodLink "OffsetBook" (48 : Nat) ({ cls := "OffsetBook$Pins", name := "<init>", desc := "()V" } : Jvm.MethodName)), (Jvm.Cond.instanceMethod ({ cls := "OffsetBook$Pins", name := "<init>", desc := "()V" } : Jvm.MethodName)), (Jvm.Cond.code ({ cls := "OffsetBook$Pins", name := "<init>", desc := "()V" } : Jvm.MethodName) prog_4_method_1_code (1 : Nat) (Option.none : Option Jvm.ClassFile.FieldType)), (Jvm.Cond.methodLink "OffsetBook$Pins" (3 : Nat) ({ cls := "java/lang/Object", name := "<init>", desc := "()V" } : Jvm.MethodName)), (Jvm.Cond.methodLink "OffsetBook$Pins" (18 : Nat) ({ cls := "java/util/Arrays", name := "fill", desc := "([II)V" } : Jvm.MethodName)), (Jvm.Cond.fieldLink "OffsetBook$Pins" (9 : Nat) "OffsetBook$Pins" "rooms" "[I"), (Jvm.Cond.fieldLink "OffsetBook$Pins" (15 : Nat) "OffsetBook$Pins" "sorts" "[I"), (Jvm.Cond.laysFinal "OffsetBook$Pins" "OffsetBook$Pins" "rooms" "[I"), (Jvm.Cond.laysFinal "OffsetBook$Pins" "OffsetBook$Pins" "sorts" "[I"), (Jvm.Cond.fieldLink "OffsetBook" (12 : Nat) "OffsetBook" "reader" "LOffsetBook$Reader;"), (Jvm.Cond.fieldLink "OffsetBook" (21 : Nat) "OffsetBook" "told" "LOffsetBook$Told;"), (Jvm.Cond.fieldLink "OffsetBook" (28 : Nat) "OffsetBook" "groups" "LOffsetBook$Groups;"), (Jvm.Cond.fieldLink "OffsetBook" (35 : Nat) "OffsetBook" "web" "LOffsetBook$Web;"), (Jvm.Cond.fieldLink "OffsetBook" (42 : Nat) "OffsetBook" "acts" "LOffsetBook$Acts;"), (Jvm.Cond.fieldLink "OffsetBook" (49 : Nat) "OffsetBook" "pins" "LOffsetBook$Pins;"), (Jvm.Cond.fieldLink "OffsetBook" (53 : Nat) "OffsetBook" "images" "[LOffsetBook$Told;"), (Jvm.Cond.fieldLink "OffsetBook" (57 : Nat) "OffsetBook" "imageMade" "[Z"), (Jvm.Cond.laysFinal "OffsetBook" "OffsetBook" "reader" "LOffsetBook$Reader;"), (Jvm.Cond.laysFinal "OffsetBook" "OffsetBook" "told" "LOffsetBook$Told;"), (Jvm.Cond.laysFinal "OffsetBook" "OffsetBook" "groups" "LOffsetBook$Groups;"), (Jvm.Cond.laysFinal "OffsetBook" "OffsetBook" "web" "LOffsetBook$Web;"), (Jvm.Cond.laysFinal "OffsetBook" "OffsetBook" "acts" "LOffsetBook$Acts;"), (Jvm.Cond.laysFinal "OffsetBook" "OffsetBook" "pins" "LOffsetBook$Pins;"), (Jvm.Cond.laysFinal "OffsetBook" "OffsetBook" "images" "[LOffsetBook$Told;"), (Jvm.Cond.laysFinal "OffsetBook" "OffsetBook" "imageMade" "[Z"), (Jvm.Cond.methodLink "OffsetBookLaw" (13 : Nat) ({ cls := "OffsetBook", name := "feed", desc := "(IIIII)I" } : Jvm.MethodName)), (Jvm.Cond.instanceMethod ({ cls := "OffsetBook", name := "feed", desc := "(IIIII)I" } : Jvm.MethodName)), (Jvm.Cond.selects "OffsetBook" ({ cls := "OffsetBook", name := "feed", desc := "(IIIII)I" } : Jvm.MethodName) ({ cls := "OffsetBook", name := "feed", desc := "(IIIII)I" } : Jvm.MethodName)), (Jvm.Cond.code ({ cls := "OffsetBook", name := "feed", desc := "(IIIII)I" } : Jvm.MethodName) prog_1_method_2_code (7 : Nat) (Option.some Jvm.ClassFile.FieldType.int)), (Jvm.Cond.methodLink "OffsetBook" (71 : Nat) ({ cls := "OffsetBook$Tape", name := "append", desc := "(I)V" } : Jvm.MethodName)), (Jvm.Cond.instanceMethod ({ cls := "OffsetBook$Tape", name := "append", desc := "(I)V" } : Jvm.MethodName)), (Jvm.Cond.selects "OffsetBook$Tape" ({ cls := "OffsetBook$Tape", name := "append", desc := "(I)V" } : Jvm.MethodName) ({ cls := "OffsetBook$Tape", name := "append", desc := "(I)V" } : Jvm.MethodName)), (Jvm.Cond.code ({ cls := "OffsetBook$Tape", name := "append", desc := "(I)V" } : Jvm.MethodName) prog_6_method_2_code (3 : Nat) (Option.none : Option Jvm.ClassFile.FieldType)), (Jvm.Cond.methodLink "OffsetBookLaw" (18 : Nat) ({ cls := "OffsetBook", name := "end", desc := "(I)I" } : Jvm.MethodName)), (Jvm.Cond.instanceMethod ({ cls := "OffsetBook", name := "end", desc := "(I)I" } : Jvm.MethodName)), (Jvm.Cond.selects "OffsetBook" ({ cls := "OffsetBook", name := "end", desc := "(I)I" } : Jvm.MethodName) ({ cls := "OffsetBook", name := "end", desc := "(I)I" } : Jvm.MethodName)), (Jvm.Cond.code ({ cls := "OffsetBook", name := "end", desc := "(I)I" } : Jvm.MethodName) prog_1_method_3_code (2 : Nat) (Option.some Jvm.ClassFile.FieldType.int)), (Jvm.Cond.methodLink "OffsetBookLaw" (23 : Nat) ({ cls := "OffsetBook", name := "tell", desc := "()I" } : Jvm.MethodName)), (Jvm.Cond.instanceMethod ({ cls := "OffsetBook", name := "tell", desc := "()I" } : Jvm.MethodName)), (Jvm.Cond.selects "OffsetBook" ({ cls := "OffsetBook", name := "tell", desc := "()I" } : Jvm.MethodName) ({ cls := "OffsetBook", name := "tell", desc := "()I" } : Jvm.MethodName)), (Jvm.Cond.code ({ cls := "OffsetBook", name := "tell", desc := "()I" } : Jvm.MethodName) prog_1_method_4_code (2 : Nat) (Option.some Jvm.ClassFile.FieldType.int)), (Jvm.Cond.methodLink "OffsetBook" (75 : Nat) ({ cls := "OffsetBook$Reader", name := "readText", desc := "(LOffsetBook$Told;)I" } : Jvm.MethodName)), (Jvm.Cond.instanceMethod ({ cls := "OffsetBook$Reader", name := "readText", desc := "(LOffsetBook$Told;)I" } : Jvm.MethodName)), (Jvm.Cond.selects "OffsetBook$Reader" ({ cls := "OffsetBook$Reader", name := "readText", desc := "(LOffsetBook$Told;)I" } : Jvm.MethodName) ({ cls := "OffsetBook$Reader", name := "readText", desc := "(LOffsetBook$Told;)I" } : Jvm.MethodName)), (Jvm.Cond.code ({ cls := "OffsetBook$Reader", name := "readText", desc := "(LOffsetBook$Told;)I" } : Jvm.MethodName) prog_5_method_2_code (3 : Nat) (Option.some Jvm.ClassFile.FieldType.int)), (Jvm.Cond.methodLink "OffsetBook$Reader" (28 : Nat) ({ cls := "OffsetBook$Reader", name := "begin", desc := "(LOffsetBook$Told;)V" } : Jvm.MethodName)), (Jvm.Cond.instanceMethod ({ cls := "OffsetBook$Reader", name := "begin", desc := "(LOffsetBook$Told;)V" } : Jvm.MethodName)), (Jvm.Cond.code ({ cls := "OffsetBook$Reader", name := "begin", desc := "(LOffsetBook$Told;)V" } : Jvm.MethodName) prog_5_method_4_code (2 : Nat) (Option.none : Option Jvm.ClassFile.FieldType)), (Jvm.Cond.methodLink "OffsetBook$Reader" (32 : Nat) ({ cls := "OffsetBook$Reader", name := "readStatement", desc := "(LOffsetBook$Told;)V" } : Jvm.MethodName)), (Jvm.Cond.instanceMethod ({ cls := "OffsetBook$Reader", name := "readStatement", desc := "(LOffsetBook$Told;)V" } : Jvm.MethodName))]
def ia_Ts_4 : List Cond := [(Jvm.Cond.code ({ cls := "OffsetBook$Reader", name := "readStatement", desc := "(LOffsetBook$Told;)V" } : Jvm.MethodName) prog_5_method_8_code (4 : Nat) (Option.none : Option Jvm.ClassFile.FieldType)), (Jvm.Cond.methodLink "OffsetBook$Reader" (54 : Nat) ({ cls := "OffsetBook$Tape", name := "passBlanks", desc := "()V" } : Jvm.MethodName)), (Jvm.Cond.instanceMethod ({ cls := "OffsetBook$Tape", name := "passBlanks", desc := "()V" } : Jvm.MethodName)), (Jvm.Cond.selects "OffsetBook$Tape" ({ cls := "OffsetBook$Tape", name := "passBlanks", desc := "()V" } : Jvm.MethodName) ({ cls := "OffsetBook$Tape", name := "passBlanks", desc := "()V" } : Jvm.MethodName)), (Jvm.Cond.code ({ cls := "OffsetBook$Tape", name := "passBlanks", desc := "()V" } : Jvm.MethodName) prog_6_method_5_code (1 : Nat) (Option.none : Option Jvm.ClassFile.FieldType)), (Jvm.Cond.methodLink "OffsetBook$Reader" (57 : Nat) ({ cls := "OffsetBook$Reader", name := "readName", desc := "(LOffsetBook$Told;)I" } : Jvm.MethodName)), (Jvm.Cond.instanceMethod ({ cls := "OffsetBook$Reader", name := "readName", desc := "(LOffsetBook$Told;)I" } : Jvm.MethodName)), (Jvm.Cond.code ({ cls := "OffsetBook$Reader", name := "readName", desc := "(LOffsetBook$Told;)I" } : Jvm.MethodName) prog_5_method_12_code (5 : Nat) (Option.some Jvm.ClassFile.FieldType.int)), (Jvm.Cond.methodLink "OffsetBook$Reader" (92 : Nat) ({ cls := "OffsetBook$Tape", name := "passLetters", desc := "()I" } : Jvm.MethodName)), (Jvm.Cond.instanceMethod ({ cls := "OffsetBook$Tape", name := "passLetters", desc := "()I" } : Jvm.MethodName)), (Jvm.Cond.selects "OffsetBook$Tape" ({ cls := "OffsetBook$Tape", name := "passLetters", desc := "()I" } : Jvm.MethodName) ({ cls := "OffsetBook$Tape", name := "passLetters", desc := "()I" } : Jvm.MethodName)), (Jvm.Cond.code ({ cls := "OffsetBook$Tape", name := "passLetters", desc := "()I" } : Jvm.MethodName) prog_6_method_6_code (2 : Nat) (Option.some Jvm.ClassFile.FieldType.int)), (Jvm.Cond.methodLink "OffsetBook$Tape" (22 : Nat) ({ cls := "OffsetBook$Tape", name := "isLetterHere", desc := "()Z" } : Jvm.MethodName)), (Jvm.Cond.instanceMethod ({ cls := "OffsetBook$Tape", name := "isLetterHere", desc := "()Z" } : Jvm.MethodName)), (Jvm.Cond.selects "OffsetBook$Tape" ({ cls := "OffsetBook$Tape", name := "isLetterHere", desc := "()Z" } : Jvm.MethodName) ({ cls := "OffsetBook$Tape", name := "isLetterHere", desc := "()Z" } : Jvm.MethodName)), (Jvm.Cond.code ({ cls := "OffsetBook$Tape", name := "isLetterHere", desc := "()Z" } : Jvm.MethodName) prog_6_method_4_code (1 : Nat) (Option.some Jvm.ClassFile.FieldType.boolean)), (Jvm.Cond.methodLink "OffsetBook$Reader" (46 : Nat) ({ cls := "OffsetBook$Reader", name := "fail", desc := "(II)V" } : Jvm.MethodName)), (Jvm.Cond.instanceMethod ({ cls := "OffsetBook$Reader", name := "fail", desc := "(II)V" } : Jvm.MethodName)), (Jvm.Cond.code ({ cls := "OffsetBook$Reader", name := "fail", desc := "(II)V" } : Jvm.MethodName) prog_5_method_5_code (3 : Nat) (Option.none : Option Jvm.ClassFile.FieldType)), (Jvm.Cond.methodLink "OffsetBook$Reader" (95 : Nat) ({ cls := "OffsetBook$Told", name := "find", desc := "(LOffsetBook$Tape;III)I" } : Jvm.MethodName)), (Jvm.Cond.instanceMethod ({ cls := "OffsetBook$Told", name := "find", desc := "(LOffsetBook$Tape;III)I" } : Jvm.MethodName)), (Jvm.Cond.selects "OffsetBook$Told" ({ cls := "OffsetBook$Told", name := "find", desc := "(LOffsetBook$Tape;III)I" } : Jvm.MethodName) ({ cls := "OffsetBook$Told", name := "find", desc := "(LOffsetBook$Tape;III)I" } : Jvm.MethodName)), (Jvm.Cond.code ({ cls := "OffsetBook$Told", name := "find", desc := "(LOffsetBook$Tape;III)I" } : Jvm.MethodName) prog_7_method_2_code (6 : Nat) (Option.some Jvm.ClassFile.FieldType.int)), (Jvm.Cond.methodLink "OffsetBook$Told" (40 : Nat) ({ cls := "OffsetBook$Told", name := "isNameAt", desc := "(ILOffsetBook$Tape;I)Z" } : Jvm.MethodName)), (Jvm.Cond.instanceMethod ({ cls := "OffsetBook$Told", name := "isNameAt", desc := "(ILOffsetBook$Tape;I)Z" } : Jvm.MethodName)), (Jvm.Cond.code ({ cls := "OffsetBook$Told", name := "isNameAt", desc := "(ILOffsetBook$Tape;I)Z" } : Jvm.MethodName) prog_7_method_3_code (5 : Nat) (Option.some Jvm.ClassFile.FieldType.boolean)), (Jvm.Cond.methodLink "OffsetBook$Reader" (99 : Nat) ({ cls := "OffsetBook$Told", name := "draftName", desc := "(ILOffsetBook$Tape;II)V" } : Jvm.MethodName)), (Jvm.Cond.instanceMethod ({ cls := "OffsetBook$Told", name := "draftName", desc := "(ILOffsetBook$Tape;II)V" } : Jvm.MethodName)), (Jvm.Cond.selects "OffsetBook$Told" ({ cls := "OffsetBook$Told", name := "draftName", desc := "(ILOffsetBook$Tape;II)V" } : Jvm.MethodName) ({ cls := "OffsetBook$Told", name := "draftName", desc := "(ILOffsetBook$Tape;II)V" } : Jvm.MethodName)), (Jvm.Cond.code ({ cls := "OffsetBook$Told", name := "draftName", desc := "(ILOffsetBook$Tape;II)V" } : Jvm.MethodName) prog_7_method_4_code (5 : Nat) (Option.none : Option Jvm.ClassFile.FieldType)), (Jvm.Cond.methodLink "OffsetBook$Told" (49 : Nat) ({ cls := "java/lang/System", name := "arraycopy", desc := "(Ljava/lang/Object;ILjava/lang/Object;II)V" } : Jvm.MethodName)), (Jvm.Cond.static ({ cls := "java/lang/System", name := "arraycopy", desc := "(Ljava/lang/Object;ILjava/lang/Object;II)V" } : Jvm.MethodName)), (Jvm.Cond.native ({ cls := "java/lang/System", name := "arraycopy", desc := "(Ljava/lang/Object;ILjava/lang/Object;II)V" } : Jvm.MethodName)), (Jvm.Cond.methodLink "OffsetBook$Reader" (61 : Nat) ({ cls := "OffsetBook$Reader", name := "isFull", desc := "(LOffsetBook$Told;)Z" } : Jvm.MethodName)), (Jvm.Cond.instanceMethod ({ cls := "OffsetBook$Reader", name := "isFull", desc := "(LOffsetBook$Told;)Z" } : Jvm.MethodName)), (Jvm.Cond.code ({ cls := "OffsetBook$Reader", name := "isFull", desc := "(LOffsetBook$Told;)Z" } : Jvm.MethodName) prog_5_method_7_code (2 : Nat) (Option.some Jvm.ClassFile.FieldType.boolean)), (Jvm.Cond.methodLink "OffsetBook$Reader" (39 : Nat) ({ cls := "OffsetBook$Reader", name := "pass", desc := "(C)V" } : Jvm.MethodName)), (Jvm.Cond.instanceMethod ({ cls := "OffsetBook$Reader", name := "pass", desc := "(C)V" } : Jvm.MethodName)), (Jvm.Cond.code ({ cls := "OffsetBook$Reader", name := "pass", desc := "(C)V" } : Jvm.MethodName) prog_5_method_6_code (2 : Nat) (Option.none : Option Jvm.ClassFile.FieldType)), (Jvm.Cond.methodLink "OffsetBook$Reader" (35 : Nat) ({ cls := "OffsetBook$Tape", name := "here", desc := "()I" } : Jvm.MethodName)), (Jvm.Cond.instanceMethod ({ cls := "OffsetBook$Tape", name := "here", desc := "()I" } : Jvm.MethodName)), (Jvm.Cond.selects "OffsetBook$Tape" ({ cls := "OffsetBook$Tape", name := "here", desc := "()I" } : Jvm.MethodName) ({ cls := "OffsetBook$Tape", name := "here", desc := "()I" } : Jvm.MethodName)), (Jvm.Cond.code ({ cls := "OffsetBook$Tape", name := "here", desc := "()I" } : Jvm.MethodName) prog_6_method_3_code (1 : Nat) (Option.some Jvm.ClassFile.FieldType.int)), (Jvm.Cond.methodLink "OffsetBook$Reader" (65 : Nat) ({ cls := "OffsetBook$Reader", name := "readRightSide", desc := "(LOffsetBook$Told;I)V" } : Jvm.MethodName)), (Jvm.Cond.instanceMethod ({ cls := "OffsetBook$Reader", name := "readRightSide", desc := "(LOffsetBook$Told;I)V" } : Jvm.MethodName)), (Jvm.Cond.code ({ cls := "OffsetBook$Reader", name := "readRightSide", desc := "(LOffsetBook$Told;I)V" } : Jvm.MethodName) prog_5_method_9_code (6 : Nat) (Option.none : Option Jvm.ClassFile.FieldType)), (Jvm.Cond.methodLink "OffsetBook$Reader" (69 : Nat) ({ cls := "OffsetBook$Tape", name := "isLetterHere", desc := "()Z" } : Jvm.MethodName)), (Jvm.Cond.methodLink "OffsetBook$Reader" (73 : Nat) ({ cls := "OffsetBook$Reader", name := "readAmount", desc := "(Z)J" } : Jvm.MethodName)), (Jvm.Cond.instanceMethod ({ cls := "OffsetBook$Reader", name := "readAmount", desc := "(Z)J" } : Jvm.MethodName)), (Jvm.Cond.code ({ cls := "OffsetBook$Reader", name := "readAmount", desc := "(Z)J" } : Jvm.MethodName) prog_5_method_10_code (6 : Nat) (Option.some Jvm.ClassFile.FieldType.long)), (Jvm.Cond.methodLink "OffsetBook$Reader" (81 : Nat) ({ cls := "OffsetBook$Reader", name := "readNumber", desc := "()J" } : Jvm.MethodName)), (Jvm.Cond.instanceMethod ({ cls := "OffsetBook$Reader", name := "readNumber", desc := "()J" } : Jvm.MethodName)), (Jvm.Cond.code ({ cls := "OffsetBook$Reader", name := "readNumber", desc := "()J" } : Jvm.MethodName) prog_5_method_11_code (3 : Nat) (Option.some Jvm.ClassFile.FieldType.long)), (Jvm.Cond.methodLink "OffsetBook$Reader" (85 : Nat) ({ cls := "OffsetBook$Tape", name := "passDigits", desc := "()I" } : Jvm.MethodName)), (Jvm.Cond.instanceMethod ({ cls := "OffsetBook$Tape", name := "passDigits", desc := "()I" } : Jvm.MethodName)), (Jvm.Cond.selects "OffsetBook$Tape" ({ cls := "OffsetBook$Tape", name := "passDigits", desc := "()I" } : Jvm.MethodName) ({ cls := "OffsetBook$Tape", name := "passDigits", desc := "()I" } : Jvm.MethodName)), (Jvm.Cond.code ({ cls := "OffsetBook$Tape", name := "passDigits", desc := "()I" } : Jvm.MethodName) prog_6_method_7_code (2 : Nat) (Option.some Jvm.ClassFile.FieldType.int)), (Jvm.Cond.methodLink "OffsetBook$Reader" (88 : Nat) ({ cls := "OffsetBook$Tape", name := "numberAt", desc := "(II)J" } : Jvm.MethodName)), (Jvm.Cond.instanceMethod ({ cls := "OffsetBook$Tape", name := "numberAt", desc := "(II)J" } : Jvm.MethodName)), (Jvm.Cond.selects "OffsetBook$Tape" ({ cls := "OffsetBook$Tape", name := "numberAt", desc := "(II)J" } : Jvm.MethodName) ({ cls := "OffsetBook$Tape", name := "numberAt", desc := "(II)J" } : Jvm.MethodName))]
def ia_Ts_5 : List Cond := [(Jvm.Cond.code ({ cls := "OffsetBook$Tape", name := "numberAt", desc := "(II)J" } : Jvm.MethodName) prog_6_method_8_code (6 : Nat) (Option.some Jvm.ClassFile.FieldType.long)), (Jvm.Cond.constantLong "OffsetBook$Tape" (26 : Nat) (10 : Int64)), (Jvm.Cond.methodLink "OffsetBook$Reader" (77 : Nat) ({ cls := "OffsetBook$Told", name := "draftStatement", desc := "(IIIJ)V" } : Jvm.MethodName)), (Jvm.Cond.instanceMethod ({ cls := "OffsetBook$Told", name := "draftStatement", desc := "(IIIJ)V" } : Jvm.MethodName)), (Jvm.Cond.selects "OffsetBook$Told" ({ cls := "OffsetBook$Told", name := "draftStatement", desc := "(IIIJ)V" } : Jvm.MethodName) ({ cls := "OffsetBook$Told", name := "draftStatement", desc := "(IIIJ)V" } : Jvm.MethodName)), (Jvm.Cond.code ({ cls := "OffsetBook$Told", name := "draftStatement", desc := "(IIIJ)V" } : Jvm.MethodName) prog_7_method_5_code (6 : Nat) (Option.none : Option Jvm.ClassFile.FieldType)), (Jvm.Cond.methodLink "OffsetBook" (79 : Nat) ({ cls := "OffsetBook$Acts", name := "add", desc := "(ILOffsetBook$Told;)V" } : Jvm.MethodName)), (Jvm.Cond.instanceMethod ({ cls := "OffsetBook$Acts", name := "add", desc := "(ILOffsetBook$Told;)V" } : Jvm.MethodName)), (Jvm.Cond.selects "OffsetBook$Acts" ({ cls := "OffsetBook$Acts", name := "add", desc := "(ILOffsetBook$Told;)V" } : Jvm.MethodName) ({ cls := "OffsetBook$Acts", name := "add", desc := "(ILOffsetBook$Told;)V" } : Jvm.MethodName)), (Jvm.Cond.code ({ cls := "OffsetBook$Acts", name := "add", desc := "(ILOffsetBook$Told;)V" } : Jvm.MethodName) prog_2_method_2_code (3 : Nat) (Option.none : Option Jvm.ClassFile.FieldType)), (Jvm.Cond.methodLink "OffsetBook$Acts" (36 : Nat) ({ cls := "java/lang/Math", name := "min", desc := "(II)I" } : Jvm.MethodName)), (Jvm.Cond.static ({ cls := "java/lang/Math", name := "min", desc := "(II)I" } : Jvm.MethodName)), (Jvm.Cond.code ({ cls := "java/lang/Math", name := "min", desc := "(II)I" } : Jvm.MethodName) prog_12_method_69_code (2 : Nat) (Option.some Jvm.ClassFile.FieldType.int)), (Jvm.Cond.methodLink "OffsetBook" (91 : Nat) ({ cls := "OffsetBook", name := "judgeAnew", desc := "()V" } : Jvm.MethodName)), (Jvm.Cond.instanceMethod ({ cls := "OffsetBook", name := "judgeAnew", desc := "()V" } : Jvm.MethodName)), (Jvm.Cond.code ({ cls := "OffsetBook", name := "judgeAnew", desc := "()V" } : Jvm.MethodName) prog_1_method_30_code (1 : Nat) (Option.none : Option Jvm.ClassFile.FieldType)), (Jvm.Cond.methodLink "OffsetBook" (236 : Nat) ({ cls := "OffsetBook$Groups", name := "judge", desc := "(LOffsetBook$Told;)V" } : Jvm.MethodName)), (Jvm.Cond.instanceMethod ({ cls := "OffsetBook$Groups", name := "judge", desc := "(LOffsetBook$Told;)V" } : Jvm.MethodName)), (Jvm.Cond.selects "OffsetBook$Groups" ({ cls := "OffsetBook$Groups", name := "judge", desc := "(LOffsetBook$Told;)V" } : Jvm.MethodName) ({ cls := "OffsetBook$Groups", name := "judge", desc := "(LOffsetBook$Told;)V" } : Jvm.MethodName)), (Jvm.Cond.code ({ cls := "OffsetBook$Groups", name := "judge", desc := "(LOffsetBook$Told;)V" } : Jvm.MethodName) prog_3_method_2_code (3 : Nat) (Option.none : Option Jvm.ClassFile.FieldType)), (Jvm.Cond.methodLink "OffsetBook$Groups" (32 : Nat) ({ cls := "OffsetBook$Groups", name := "weigh", desc := "(LOffsetBook$Told;I)I" } : Jvm.MethodName)), (Jvm.Cond.instanceMethod ({ cls := "OffsetBook$Groups", name := "weigh", desc := "(LOffsetBook$Told;I)I" } : Jvm.MethodName)), (Jvm.Cond.selects "OffsetBook$Groups" ({ cls := "OffsetBook$Groups", name := "weigh", desc := "(LOffsetBook$Told;I)I" } : Jvm.MethodName) ({ cls := "OffsetBook$Groups", name := "weigh", desc := "(LOffsetBook$Told;I)I" } : Jvm.MethodName)), (Jvm.Cond.code ({ cls := "OffsetBook$Groups", name := "weigh", desc := "(LOffsetBook$Told;I)I" } : Jvm.MethodName) prog_3_method_3_code (13 : Nat) (Option.some Jvm.ClassFile.FieldType.int)), (Jvm.Cond.methodLink "OffsetBook$Groups" (49 : Nat) ({ cls := "OffsetBook$Groups", name := "highest", desc := "(I)J" } : Jvm.MethodName)), (Jvm.Cond.instanceMethod ({ cls := "OffsetBook$Groups", name := "highest", desc := "(I)J" } : Jvm.MethodName)), (Jvm.Cond.selects "OffsetBook$Groups" ({ cls := "OffsetBook$Groups", name := "highest", desc := "(I)J" } : Jvm.MethodName) ({ cls := "OffsetBook$Groups", name := "highest", desc := "(I)J" } : Jvm.MethodName)), (Jvm.Cond.code ({ cls := "OffsetBook$Groups", name := "highest", desc := "(I)J" } : Jvm.MethodName) prog_3_method_6_code (5 : Nat) (Option.some Jvm.ClassFile.FieldType.long)), (Jvm.Cond.methodLink "OffsetBook$Groups" (53 : Nat) ({ cls := "java/lang/Math", name := "max", desc := "(JJ)J" } : Jvm.MethodName)), (Jvm.Cond.static ({ cls := "java/lang/Math", name := "max", desc := "(JJ)J" } : Jvm.MethodName)), (Jvm.Cond.code ({ cls := "java/lang/Math", name := "max", desc := "(JJ)J" } : Jvm.MethodName) prog_12_method_66_code (4 : Nat) (Option.some Jvm.ClassFile.FieldType.long)), (Jvm.Cond.methodLink "OffsetBook$Groups" (59 : Nat) ({ cls := "OffsetBook$Groups", name := "lowest", desc := "(I)J" } : Jvm.MethodName)), (Jvm.Cond.instanceMethod ({ cls := "OffsetBook$Groups", name := "lowest", desc := "(I)J" } : Jvm.MethodName)), (Jvm.Cond.selects "OffsetBook$Groups" ({ cls := "OffsetBook$Groups", name := "lowest", desc := "(I)J" } : Jvm.MethodName) ({ cls := "OffsetBook$Groups", name := "lowest", desc := "(I)J" } : Jvm.MethodName)), (Jvm.Cond.code ({ cls := "OffsetBook$Groups", name := "lowest", desc := "(I)J" } : Jvm.MethodName) prog_3_method_7_code (5 : Nat) (Option.some Jvm.ClassFile.FieldType.long)), (Jvm.Cond.methodLink "OffsetBook$Groups" (62 : Nat) ({ cls := "java/lang/Math", name := "min", desc := "(JJ)J" } : Jvm.MethodName)), (Jvm.Cond.static ({ cls := "java/lang/Math", name := "min", desc := "(JJ)J" } : Jvm.MethodName)), (Jvm.Cond.code ({ cls := "java/lang/Math", name := "min", desc := "(JJ)J" } : Jvm.MethodName) prog_12_method_70_code (4 : Nat) (Option.some Jvm.ClassFile.FieldType.long)), (Jvm.Cond.constantLong "OffsetBook$Groups" (65 : Nat) (1000000000000000000 : Int64)), (Jvm.Cond.methodLink "OffsetBook$Groups" (45 : Nat) ({ cls := "OffsetBook$Groups", name := "join", desc := "(IIJ)V" } : Jvm.MethodName)), (Jvm.Cond.instanceMethod ({ cls := "OffsetBook$Groups", name := "join", desc := "(IIJ)V" } : Jvm.MethodName)), (Jvm.Cond.code ({ cls := "OffsetBook$Groups", name := "join", desc := "(IIJ)V" } : Jvm.MethodName) prog_3_method_4_code (7 : Nat) (Option.none : Option Jvm.ClassFile.FieldType)), (Jvm.Cond.methodLink "OffsetBook$Groups" (67 : Nat) ({ cls := "OffsetBook$Groups", name := "move", desc := "(IIJ)V" } : Jvm.MethodName)), (Jvm.Cond.instanceMethod ({ cls := "OffsetBook$Groups", name := "move", desc := "(IIJ)V" } : Jvm.MethodName)), (Jvm.Cond.code ({ cls := "OffsetBook$Groups", name := "move", desc := "(IIJ)V" } : Jvm.MethodName) prog_3_method_5_code (6 : Nat) (Option.none : Option Jvm.ClassFile.FieldType)), (Jvm.Cond.methodLink "OffsetBook" (239 : Nat) ({ cls := "OffsetBook$Web", name := "weave", desc := "(LOffsetBook$Told;LOffsetBook$Groups;)V" } : Jvm.MethodName)), (Jvm.Cond.instanceMethod ({ cls := "OffsetBook$Web", name := "weave", desc := "(LOffsetBook$Told;LOffsetBook$Groups;)V" } : Jvm.MethodName)), (Jvm.Cond.selects "OffsetBook$Web" ({ cls := "OffsetBook$Web", name := "weave", desc := "(LOffsetBook$Told;LOffsetBook$Groups;)V" } : Jvm.MethodName) ({ cls := "OffsetBook$Web", name := "weave", desc := "(LOffsetBook$Told;LOffsetBook$Groups;)V" } : Jvm.MethodName)), (Jvm.Cond.code ({ cls := "OffsetBook$Web", name := "weave", desc := "(LOffsetBook$Told;LOffsetBook$Groups;)V" } : Jvm.MethodName) prog_8_method_2_code (4 : Nat) (Option.none : Option Jvm.ClassFile.FieldType)), (Jvm.Cond.methodLink "OffsetBook$Web" (78 : Nat) ({ cls := "OffsetBook$Web", name := "sortWays", desc := "()V" } : Jvm.MethodName)), (Jvm.Cond.instanceMethod ({ cls := "OffsetBook$Web", name := "sortWays", desc := "()V" } : Jvm.MethodName)), (Jvm.Cond.code ({ cls := "OffsetBook$Web", name := "sortWays", desc := "()V" } : Jvm.MethodName) prog_8_method_3_code (3 : Nat) (Option.none : Option Jvm.ClassFile.FieldType)), (Jvm.Cond.methodLink "OffsetBookLaw" (28 : Nat) ({ cls := "OffsetBook", name := "test", desc := "()I" } : Jvm.MethodName)), (Jvm.Cond.instanceMethod ({ cls := "OffsetBook", name := "test", desc := "()I" } : Jvm.MethodName)), (Jvm.Cond.selects "OffsetBook" ({ cls := "OffsetBook", name := "test", desc := "()I" } : Jvm.MethodName) ({ cls := "OffsetBook", name := "test", desc := "()I" } : Jvm.MethodName)), (Jvm.Cond.code ({ cls := "OffsetBook", name := "test", desc := "()I" } : Jvm.MethodName) prog_1_method_5_code (2 : Nat) (Option.some Jvm.ClassFile.FieldType.int)), (Jvm.Cond.methodLink "OffsetBook" (94 : Nat) ({ cls := "OffsetBook$Reader", name := "readLoneStatement", desc := "(LOffsetBook$Told;)I" } : Jvm.MethodName)), (Jvm.Cond.instanceMethod ({ cls := "OffsetBook$Reader", name := "readLoneStatement", desc := "(LOffsetBook$Told;)I" } : Jvm.MethodName)), (Jvm.Cond.selects "OffsetBook$Reader" ({ cls := "OffsetBook$Reader", name := "readLoneStatement", desc := "(LOffsetBook$Told;)I" } : Jvm.MethodName) ({ cls := "OffsetBook$Reader", name := "readLoneStatement", desc := "(LOffsetBook$Told;)I" } : Jvm.MethodName)), (Jvm.Cond.code ({ cls := "OffsetBook$Reader", name := "readLoneStatement", desc := "(LOffsetBook$Told;)I" } : Jvm.MethodName) prog_5_method_3_code (2 : Nat) (Option.some Jvm.ClassFile.FieldType.int))]
def ia_Ts_6 : List Cond := [(Jvm.Cond.methodLink "OffsetBook" (97 : Nat) ({ cls := "OffsetBook$Groups", name := "weigh", desc := "(LOffsetBook$Told;I)I" } : Jvm.MethodName)), (Jvm.Cond.methodLink "OffsetBookLaw" (32 : Nat) ({ cls := "OffsetBook", name := "retract", desc := "(I)I" } : Jvm.MethodName)), (Jvm.Cond.instanceMethod ({ cls := "OffsetBook", name := "retract", desc := "(I)I" } : Jvm.MethodName)), (Jvm.Cond.selects "OffsetBook" ({ cls := "OffsetBook", name := "retract", desc := "(I)I" } : Jvm.MethodName) ({ cls := "OffsetBook", name := "retract", desc := "(I)I" } : Jvm.MethodName)), (Jvm.Cond.code ({ cls := "OffsetBook", name := "retract", desc := "(I)I" } : Jvm.MethodName) prog_1_method_6_code (2 : Nat) (Option.some Jvm.ClassFile.FieldType.int)), (Jvm.Cond.methodLink "OffsetBook" (101 : Nat) ({ cls := "OffsetBook", name := "isStatement", desc := "(I)Z" } : Jvm.MethodName)), (Jvm.Cond.instanceMethod ({ cls := "OffsetBook", name := "isStatement", desc := "(I)Z" } : Jvm.MethodName)), (Jvm.Cond.code ({ cls := "OffsetBook", name := "isStatement", desc := "(I)Z" } : Jvm.MethodName) prog_1_method_28_code (2 : Nat) (Option.some Jvm.ClassFile.FieldType.boolean)), (Jvm.Cond.methodLink "OffsetBook" (108 : Nat) ({ cls := "OffsetBook", name := "turn", desc := "(I)I" } : Jvm.MethodName)), (Jvm.Cond.instanceMethod ({ cls := "OffsetBook", name := "turn", desc := "(I)I" } : Jvm.MethodName)), (Jvm.Cond.code ({ cls := "OffsetBook", name := "turn", desc := "(I)I" } : Jvm.MethodName) prog_1_method_31_code (2 : Nat) (Option.some Jvm.ClassFile.FieldType.int)), (Jvm.Cond.methodLink "OffsetBook" (224 : Nat) ({ cls := "OffsetBook$Groups", name := "countOf", desc := "(II)I" } : Jvm.MethodName)), (Jvm.Cond.instanceMethod ({ cls := "OffsetBook$Groups", name := "countOf", desc := "(II)I" } : Jvm.MethodName)), (Jvm.Cond.selects "OffsetBook$Groups" ({ cls := "OffsetBook$Groups", name := "countOf", desc := "(II)I" } : Jvm.MethodName) ({ cls := "OffsetBook$Groups", name := "countOf", desc := "(II)I" } : Jvm.MethodName)), (Jvm.Cond.code ({ cls := "OffsetBook$Groups", name := "countOf", desc := "(II)I" } : Jvm.MethodName) prog_3_method_14_code (5 : Nat) (Option.some Jvm.ClassFile.FieldType.int)), (Jvm.Cond.methodLink "OffsetBookLaw" (36 : Nat) ({ cls := "OffsetBook", name := "restore", desc := "(I)I" } : Jvm.MethodName)), (Jvm.Cond.instanceMethod ({ cls := "OffsetBook", name := "restore", desc := "(I)I" } : Jvm.MethodName)), (Jvm.Cond.selects "OffsetBook" ({ cls := "OffsetBook", name := "restore", desc := "(I)I" } : Jvm.MethodName) ({ cls := "OffsetBook", name := "restore", desc := "(I)I" } : Jvm.MethodName)), (Jvm.Cond.code ({ cls := "OffsetBook", name := "restore", desc := "(I)I" } : Jvm.MethodName) prog_1_method_7_code (2 : Nat) (Option.some Jvm.ClassFile.FieldType.int)), (Jvm.Cond.methodLink "OffsetBookLaw" (40 : Nat) ({ cls := "OffsetBook", name := "undo", desc := "()I" } : Jvm.MethodName)), (Jvm.Cond.instanceMethod ({ cls := "OffsetBook", name := "undo", desc := "()I" } : Jvm.MethodName)), (Jvm.Cond.selects "OffsetBook" ({ cls := "OffsetBook", name := "undo", desc := "()I" } : Jvm.MethodName) ({ cls := "OffsetBook", name := "undo", desc := "()I" } : Jvm.MethodName)), (Jvm.Cond.code ({ cls := "OffsetBook", name := "undo", desc := "()I" } : Jvm.MethodName) prog_1_method_8_code (1 : Nat) (Option.some Jvm.ClassFile.FieldType.int)), (Jvm.Cond.methodLink "OffsetBook" (115 : Nat) ({ cls := "OffsetBook$Acts", name := "takeBackLast", desc := "(LOffsetBook$Told;)V" } : Jvm.MethodName)), (Jvm.Cond.instanceMethod ({ cls := "OffsetBook$Acts", name := "takeBackLast", desc := "(LOffsetBook$Told;)V" } : Jvm.MethodName)), (Jvm.Cond.selects "OffsetBook$Acts" ({ cls := "OffsetBook$Acts", name := "takeBackLast", desc := "(LOffsetBook$Told;)V" } : Jvm.MethodName) ({ cls := "OffsetBook$Acts", name := "takeBackLast", desc := "(LOffsetBook$Told;)V" } : Jvm.MethodName)), (Jvm.Cond.code ({ cls := "OffsetBook$Acts", name := "takeBackLast", desc := "(LOffsetBook$Told;)V" } : Jvm.MethodName) prog_2_method_3_code (3 : Nat) (Option.none : Option Jvm.ClassFile.FieldType)), (Jvm.Cond.methodLink "OffsetBookLaw" (44 : Nat) ({ cls := "OffsetBook", name := "statement", desc := "(II)I" } : Jvm.MethodName)), (Jvm.Cond.instanceMethod ({ cls := "OffsetBook", name := "statement", desc := "(II)I" } : Jvm.MethodName)), (Jvm.Cond.selects "OffsetBook" ({ cls := "OffsetBook", name := "statement", desc := "(II)I" } : Jvm.MethodName) ({ cls := "OffsetBook", name := "statement", desc := "(II)I" } : Jvm.MethodName)), (Jvm.Cond.code ({ cls := "OffsetBook", name := "statement", desc := "(II)I" } : Jvm.MethodName) prog_1_method_9_code (3 : Nat) (Option.some Jvm.ClassFile.FieldType.int)), (Jvm.Cond.methodLink "OffsetBook" (129 : Nat) ({ cls := "OffsetBook", name := "hangs", desc := "(I)Z" } : Jvm.MethodName)), (Jvm.Cond.instanceMethod ({ cls := "OffsetBook", name := "hangs", desc := "(I)Z" } : Jvm.MethodName)), (Jvm.Cond.code ({ cls := "OffsetBook", name := "hangs", desc := "(I)Z" } : Jvm.MethodName) prog_1_method_33_code (2 : Nat) (Option.some Jvm.ClassFile.FieldType.boolean)), (Jvm.Cond.methodLink "OffsetBook" (132 : Nat) ({ cls := "OffsetBook", name := "relyOn", desc := "(I)I" } : Jvm.MethodName)), (Jvm.Cond.instanceMethod ({ cls := "OffsetBook", name := "relyOn", desc := "(I)I" } : Jvm.MethodName)), (Jvm.Cond.code ({ cls := "OffsetBook", name := "relyOn", desc := "(I)I" } : Jvm.MethodName) prog_1_method_32_code (2 : Nat) (Option.some Jvm.ClassFile.FieldType.int)), (Jvm.Cond.methodLink "OffsetBook" (243 : Nat) ({ cls := "OffsetBook$Web", name := "growTrees", desc := "(I)V" } : Jvm.MethodName)), (Jvm.Cond.instanceMethod ({ cls := "OffsetBook$Web", name := "growTrees", desc := "(I)V" } : Jvm.MethodName)), (Jvm.Cond.selects "OffsetBook$Web" ({ cls := "OffsetBook$Web", name := "growTrees", desc := "(I)V" } : Jvm.MethodName) ({ cls := "OffsetBook$Web", name := "growTrees", desc := "(I)V" } : Jvm.MethodName)), (Jvm.Cond.code ({ cls := "OffsetBook$Web", name := "growTrees", desc := "(I)V" } : Jvm.MethodName) prog_8_method_17_code (3 : Nat) (Option.none : Option Jvm.ClassFile.FieldType)), (Jvm.Cond.methodLink "OffsetBook$Web" (89 : Nat) ({ cls := "OffsetBook$Web", name := "forgetReached", desc := "()V" } : Jvm.MethodName)), (Jvm.Cond.instanceMethod ({ cls := "OffsetBook$Web", name := "forgetReached", desc := "()V" } : Jvm.MethodName)), (Jvm.Cond.code ({ cls := "OffsetBook$Web", name := "forgetReached", desc := "()V" } : Jvm.MethodName) prog_8_method_5_code (1 : Nat) (Option.none : Option Jvm.ClassFile.FieldType)), (Jvm.Cond.methodLink "OffsetBook$Web" (92 : Nat) ({ cls := "OffsetBook$Web", name := "reachFrom", desc := "(I)V" } : Jvm.MethodName)), (Jvm.Cond.instanceMethod ({ cls := "OffsetBook$Web", name := "reachFrom", desc := "(I)V" } : Jvm.MethodName)), (Jvm.Cond.code ({ cls := "OffsetBook$Web", name := "reachFrom", desc := "(I)V" } : Jvm.MethodName) prog_8_method_7_code (7 : Nat) (Option.none : Option Jvm.ClassFile.FieldType)), (Jvm.Cond.methodLink "OffsetBook$Web" (81 : Nat) ({ cls := "OffsetBook$Web", name := "mark", desc := "(III)V" } : Jvm.MethodName)), (Jvm.Cond.instanceMethod ({ cls := "OffsetBook$Web", name := "mark", desc := "(III)V" } : Jvm.MethodName)), (Jvm.Cond.code ({ cls := "OffsetBook$Web", name := "mark", desc := "(III)V" } : Jvm.MethodName) prog_8_method_6_code (4 : Nat) (Option.none : Option Jvm.ClassFile.FieldType)), (Jvm.Cond.methodLink "OffsetBook$Web" (85 : Nat) ({ cls := "OffsetBook$Web", name := "hasRoom", desc := "(I)Z" } : Jvm.MethodName)), (Jvm.Cond.instanceMethod ({ cls := "OffsetBook$Web", name := "hasRoom", desc := "(I)Z" } : Jvm.MethodName)), (Jvm.Cond.code ({ cls := "OffsetBook$Web", name := "hasRoom", desc := "(I)Z" } : Jvm.MethodName) prog_8_method_8_code (2 : Nat) (Option.some Jvm.ClassFile.FieldType.boolean)), (Jvm.Cond.methodLink "OffsetBook$Web" (107 : Nat) ({ cls := "OffsetBook$Web", name := "isStanding", desc := "(I)Z" } : Jvm.MethodName)), (Jvm.Cond.instanceMethod ({ cls := "OffsetBook$Web", name := "isStanding", desc := "(I)Z" } : Jvm.MethodName)), (Jvm.Cond.code ({ cls := "OffsetBook$Web", name := "isStanding", desc := "(I)Z" } : Jvm.MethodName) prog_8_method_4_code (2 : Nat) (Option.some Jvm.ClassFile.FieldType.boolean)), (Jvm.Cond.methodLink "OffsetBook$Web" (113 : Nat) ({ cls := "OffsetBook$Web", name := "lowerEnd", desc := "(I)I" } : Jvm.MethodName)), (Jvm.Cond.instanceMethod ({ cls := "OffsetBook$Web", name := "lowerEnd", desc := "(I)I" } : Jvm.MethodName)), (Jvm.Cond.code ({ cls := "OffsetBook$Web", name := "lowerEnd", desc := "(I)I" } : Jvm.MethodName) prog_8_method_18_code (4 : Nat) (Option.some Jvm.ClassFile.FieldType.int)), (Jvm.Cond.methodLink "OffsetBook$Web" (116 : Nat) ({ cls := "OffsetBook$Web", name := "markRing", desc := "(II)V" } : Jvm.MethodName))]
def ia_Ts_7 : List Cond := [(Jvm.Cond.instanceMethod ({ cls := "OffsetBook$Web", name := "markRing", desc := "(II)V" } : Jvm.MethodName)), (Jvm.Cond.code ({ cls := "OffsetBook$Web", name := "markRing", desc := "(II)V" } : Jvm.MethodName) prog_8_method_20_code (6 : Nat) (Option.none : Option Jvm.ClassFile.FieldType)), (Jvm.Cond.methodLink "OffsetBook$Web" (126 : Nat) ({ cls := "OffsetBook$Web", name := "above", desc := "(I)I" } : Jvm.MethodName)), (Jvm.Cond.instanceMethod ({ cls := "OffsetBook$Web", name := "above", desc := "(I)I" } : Jvm.MethodName)), (Jvm.Cond.code ({ cls := "OffsetBook$Web", name := "above", desc := "(I)I" } : Jvm.MethodName) prog_8_method_19_code (2 : Nat) (Option.some Jvm.ClassFile.FieldType.int)), (Jvm.Cond.methodLink "OffsetBook$Web" (120 : Nat) ({ cls := "OffsetBook$Web", name := "addUpBelow", desc := "()V" } : Jvm.MethodName)), (Jvm.Cond.instanceMethod ({ cls := "OffsetBook$Web", name := "addUpBelow", desc := "()V" } : Jvm.MethodName)), (Jvm.Cond.code ({ cls := "OffsetBook$Web", name := "addUpBelow", desc := "()V" } : Jvm.MethodName) prog_8_method_21_code (3 : Nat) (Option.none : Option Jvm.ClassFile.FieldType)), (Jvm.Cond.methodLink "OffsetBook$Web" (123 : Nat) ({ cls := "OffsetBook$Web", name := "fillRely", desc := "()V" } : Jvm.MethodName)), (Jvm.Cond.instanceMethod ({ cls := "OffsetBook$Web", name := "fillRely", desc := "()V" } : Jvm.MethodName)), (Jvm.Cond.code ({ cls := "OffsetBook$Web", name := "fillRely", desc := "()V" } : Jvm.MethodName) prog_8_method_22_code (4 : Nat) (Option.none : Option Jvm.ClassFile.FieldType)), (Jvm.Cond.methodLink "OffsetBook" (246 : Nat) ({ cls := "OffsetBook$Web", name := "relyOn", desc := "(I)I" } : Jvm.MethodName)), (Jvm.Cond.instanceMethod ({ cls := "OffsetBook$Web", name := "relyOn", desc := "(I)I" } : Jvm.MethodName)), (Jvm.Cond.selects "OffsetBook$Web" ({ cls := "OffsetBook$Web", name := "relyOn", desc := "(I)I" } : Jvm.MethodName) ({ cls := "OffsetBook$Web", name := "relyOn", desc := "(I)I" } : Jvm.MethodName)), (Jvm.Cond.code ({ cls := "OffsetBook$Web", name := "relyOn", desc := "(I)I" } : Jvm.MethodName) prog_8_method_23_code (2 : Nat) (Option.some Jvm.ClassFile.FieldType.int)), (Jvm.Cond.methodLink "OffsetBookLaw" (49 : Nat) ({ cls := "OffsetBook", name := "amount", desc := "(I)J" } : Jvm.MethodName)), (Jvm.Cond.instanceMethod ({ cls := "OffsetBook", name := "amount", desc := "(I)J" } : Jvm.MethodName)), (Jvm.Cond.selects "OffsetBook" ({ cls := "OffsetBook", name := "amount", desc := "(I)J" } : Jvm.MethodName) ({ cls := "OffsetBook", name := "amount", desc := "(I)J" } : Jvm.MethodName)), (Jvm.Cond.code ({ cls := "OffsetBook", name := "amount", desc := "(I)J" } : Jvm.MethodName) prog_1_method_10_code (2 : Nat) (Option.some Jvm.ClassFile.FieldType.long)), (Jvm.Cond.constantLong "OffsetBook" (139 : Nat) (-9223372036854775808 : Int64)), (Jvm.Cond.methodLink "OffsetBookLaw" (54 : Nat) ({ cls := "OffsetBook", name := "gauge", desc := "()I" } : Jvm.MethodName)), (Jvm.Cond.instanceMethod ({ cls := "OffsetBook", name := "gauge", desc := "()I" } : Jvm.MethodName)), (Jvm.Cond.selects "OffsetBook" ({ cls := "OffsetBook", name := "gauge", desc := "()I" } : Jvm.MethodName) ({ cls := "OffsetBook", name := "gauge", desc := "()I" } : Jvm.MethodName)), (Jvm.Cond.code ({ cls := "OffsetBook", name := "gauge", desc := "()I" } : Jvm.MethodName) prog_1_method_11_code (3 : Nat) (Option.some Jvm.ClassFile.FieldType.int)), (Jvm.Cond.methodLink "OffsetBook" (141 : Nat) ({ cls := "OffsetBook$Told", name := "find", desc := "(LOffsetBook$Tape;III)I" } : Jvm.MethodName)), (Jvm.Cond.methodLink "OffsetBookLaw" (58 : Nat) ({ cls := "OffsetBook", name := "letter", desc := "(II)I" } : Jvm.MethodName)), (Jvm.Cond.instanceMethod ({ cls := "OffsetBook", name := "letter", desc := "(II)I" } : Jvm.MethodName)), (Jvm.Cond.selects "OffsetBook" ({ cls := "OffsetBook", name := "letter", desc := "(II)I" } : Jvm.MethodName) ({ cls := "OffsetBook", name := "letter", desc := "(II)I" } : Jvm.MethodName)), (Jvm.Cond.code ({ cls := "OffsetBook", name := "letter", desc := "(II)I" } : Jvm.MethodName) prog_1_method_12_code (3 : Nat) (Option.some Jvm.ClassFile.FieldType.int)), (Jvm.Cond.methodLink "OffsetBook" (145 : Nat) ({ cls := "OffsetBook", name := "isGauge", desc := "(I)Z" } : Jvm.MethodName)), (Jvm.Cond.instanceMethod ({ cls := "OffsetBook", name := "isGauge", desc := "(I)Z" } : Jvm.MethodName)), (Jvm.Cond.code ({ cls := "OffsetBook", name := "isGauge", desc := "(I)Z" } : Jvm.MethodName) prog_1_method_29_code (2 : Nat) (Option.some Jvm.ClassFile.FieldType.boolean)), (Jvm.Cond.methodLink "OffsetBookLaw" (62 : Nat) ({ cls := "OffsetBook", name := "difference", desc := "(II)J" } : Jvm.MethodName)), (Jvm.Cond.instanceMethod ({ cls := "OffsetBook", name := "difference", desc := "(II)J" } : Jvm.MethodName)), (Jvm.Cond.selects "OffsetBook" ({ cls := "OffsetBook", name := "difference", desc := "(II)J" } : Jvm.MethodName) ({ cls := "OffsetBook", name := "difference", desc := "(II)J" } : Jvm.MethodName)), (Jvm.Cond.code ({ cls := "OffsetBook", name := "difference", desc := "(II)J" } : Jvm.MethodName) prog_1_method_13_code (3 : Nat) (Option.some Jvm.ClassFile.FieldType.long)), (Jvm.Cond.methodLink "OffsetBookLaw" (67 : Nat) ({ cls := "OffsetBook", name := "offset", desc := "(I)J" } : Jvm.MethodName)), (Jvm.Cond.instanceMethod ({ cls := "OffsetBook", name := "offset", desc := "(I)J" } : Jvm.MethodName)), (Jvm.Cond.selects "OffsetBook" ({ cls := "OffsetBook", name := "offset", desc := "(I)J" } : Jvm.MethodName) ({ cls := "OffsetBook", name := "offset", desc := "(I)J" } : Jvm.MethodName)), (Jvm.Cond.code ({ cls := "OffsetBook", name := "offset", desc := "(I)J" } : Jvm.MethodName) prog_1_method_14_code (2 : Nat) (Option.some Jvm.ClassFile.FieldType.long)), (Jvm.Cond.methodLink "OffsetBookLaw" (71 : Nat) ({ cls := "OffsetBook", name := "group", desc := "(II)I" } : Jvm.MethodName)), (Jvm.Cond.instanceMethod ({ cls := "OffsetBook", name := "group", desc := "(II)I" } : Jvm.MethodName)), (Jvm.Cond.selects "OffsetBook" ({ cls := "OffsetBook", name := "group", desc := "(II)I" } : Jvm.MethodName) ({ cls := "OffsetBook", name := "group", desc := "(II)I" } : Jvm.MethodName)), (Jvm.Cond.code ({ cls := "OffsetBook", name := "group", desc := "(II)I" } : Jvm.MethodName) prog_1_method_15_code (3 : Nat) (Option.some Jvm.ClassFile.FieldType.int)), (Jvm.Cond.methodLink "OffsetBook" (161 : Nat) ({ cls := "OffsetBook$Groups", name := "sizeOf", desc := "(I)I" } : Jvm.MethodName)), (Jvm.Cond.instanceMethod ({ cls := "OffsetBook$Groups", name := "sizeOf", desc := "(I)I" } : Jvm.MethodName)), (Jvm.Cond.selects "OffsetBook$Groups" ({ cls := "OffsetBook$Groups", name := "sizeOf", desc := "(I)I" } : Jvm.MethodName) ({ cls := "OffsetBook$Groups", name := "sizeOf", desc := "(I)I" } : Jvm.MethodName)), (Jvm.Cond.code ({ cls := "OffsetBook$Groups", name := "sizeOf", desc := "(I)I" } : Jvm.MethodName) prog_3_method_8_code (4 : Nat) (Option.some Jvm.ClassFile.FieldType.int)), (Jvm.Cond.methodLink "OffsetBookLaw" (75 : Nat) ({ cls := "OffsetBook", name := "order", desc := "(II)I" } : Jvm.MethodName)), (Jvm.Cond.instanceMethod ({ cls := "OffsetBook", name := "order", desc := "(II)I" } : Jvm.MethodName)), (Jvm.Cond.selects "OffsetBook" ({ cls := "OffsetBook", name := "order", desc := "(II)I" } : Jvm.MethodName) ({ cls := "OffsetBook", name := "order", desc := "(II)I" } : Jvm.MethodName)), (Jvm.Cond.code ({ cls := "OffsetBook", name := "order", desc := "(II)I" } : Jvm.MethodName) prog_1_method_16_code (5 : Nat) (Option.some Jvm.ClassFile.FieldType.int)), (Jvm.Cond.methodLink "OffsetBook" (164 : Nat) ({ cls := "OffsetBook$Groups", name := "countAhead", desc := "(I)I" } : Jvm.MethodName)), (Jvm.Cond.instanceMethod ({ cls := "OffsetBook$Groups", name := "countAhead", desc := "(I)I" } : Jvm.MethodName)), (Jvm.Cond.selects "OffsetBook$Groups" ({ cls := "OffsetBook$Groups", name := "countAhead", desc := "(I)I" } : Jvm.MethodName) ({ cls := "OffsetBook$Groups", name := "countAhead", desc := "(I)I" } : Jvm.MethodName)), (Jvm.Cond.code ({ cls := "OffsetBook$Groups", name := "countAhead", desc := "(I)I" } : Jvm.MethodName) prog_3_method_9_code (5 : Nat) (Option.some Jvm.ClassFile.FieldType.int)), (Jvm.Cond.methodLink "OffsetBookLaw" (79 : Nat) ({ cls := "OffsetBook", name := "span", desc := "(I)J" } : Jvm.MethodName)), (Jvm.Cond.instanceMethod ({ cls := "OffsetBook", name := "span", desc := "(I)J" } : Jvm.MethodName)), (Jvm.Cond.selects "OffsetBook" ({ cls := "OffsetBook", name := "span", desc := "(I)J" } : Jvm.MethodName) ({ cls := "OffsetBook", name := "span", desc := "(I)J" } : Jvm.MethodName)), (Jvm.Cond.code ({ cls := "OffsetBook", name := "span", desc := "(I)J" } : Jvm.MethodName) prog_1_method_17_code (3 : Nat) (Option.some Jvm.ClassFile.FieldType.long))]
def ia_Ts_8 : List Cond := [(Jvm.Cond.methodLink "OffsetBook" (167 : Nat) ({ cls := "OffsetBook$Groups", name := "highest", desc := "(I)J" } : Jvm.MethodName)), (Jvm.Cond.methodLink "OffsetBook" (171 : Nat) ({ cls := "OffsetBook$Groups", name := "lowest", desc := "(I)J" } : Jvm.MethodName)), (Jvm.Cond.methodLink "OffsetBookLaw" (83 : Nat) ({ cls := "OffsetBook", name := "mean", desc := "(I)J" } : Jvm.MethodName)), (Jvm.Cond.instanceMethod ({ cls := "OffsetBook", name := "mean", desc := "(I)J" } : Jvm.MethodName)), (Jvm.Cond.selects "OffsetBook" ({ cls := "OffsetBook", name := "mean", desc := "(I)J" } : Jvm.MethodName) ({ cls := "OffsetBook", name := "mean", desc := "(I)J" } : Jvm.MethodName)), (Jvm.Cond.code ({ cls := "OffsetBook", name := "mean", desc := "(I)J" } : Jvm.MethodName) prog_1_method_18_code (2 : Nat) (Option.some Jvm.ClassFile.FieldType.long)), (Jvm.Cond.methodLink "OffsetBook" (174 : Nat) ({ cls := "OffsetBook$Groups", name := "meanOf", desc := "(I)D" } : Jvm.MethodName)), (Jvm.Cond.instanceMethod ({ cls := "OffsetBook$Groups", name := "meanOf", desc := "(I)D" } : Jvm.MethodName)), (Jvm.Cond.selects "OffsetBook$Groups" ({ cls := "OffsetBook$Groups", name := "meanOf", desc := "(I)D" } : Jvm.MethodName) ({ cls := "OffsetBook$Groups", name := "meanOf", desc := "(I)D" } : Jvm.MethodName)), (Jvm.Cond.code ({ cls := "OffsetBook$Groups", name := "meanOf", desc := "(I)D" } : Jvm.MethodName) prog_3_method_10_code (6 : Nat) (Option.some Jvm.ClassFile.FieldType.double)), (Jvm.Cond.methodLink "OffsetBook" (178 : Nat) ({ cls := "OffsetBook", name := "bitsOf", desc := "(D)J" } : Jvm.MethodName)), (Jvm.Cond.static ({ cls := "OffsetBook", name := "bitsOf", desc := "(D)J" } : Jvm.MethodName)), (Jvm.Cond.code ({ cls := "OffsetBook", name := "bitsOf", desc := "(D)J" } : Jvm.MethodName) prog_1_method_35_code (8 : Nat) (Option.some Jvm.ClassFile.FieldType.long)), (Jvm.Cond.constantLong "OffsetBook" (247 : Nat) (1075 : Int64)), (Jvm.Cond.constantDouble "OffsetBook" (249 : Nat) (4841369599423283200 : UInt64)), (Jvm.Cond.constantDouble "OffsetBook" (251 : Nat) (4611686018427387904 : UInt64)), (Jvm.Cond.constantDouble "OffsetBook" (253 : Nat) (4845873199050653696 : UInt64)), (Jvm.Cond.constantLong "OffsetBook" (255 : Nat) (4503599627370495 : Int64)), (Jvm.Cond.methodLink "OffsetBookLaw" (89 : Nat) ({ cls := "OffsetBook", name := "twos", desc := "(J)I" } : Jvm.MethodName)), (Jvm.Cond.instanceMethod ({ cls := "OffsetBook", name := "twos", desc := "(J)I" } : Jvm.MethodName)), (Jvm.Cond.selects "OffsetBook" ({ cls := "OffsetBook", name := "twos", desc := "(J)I" } : Jvm.MethodName) ({ cls := "OffsetBook", name := "twos", desc := "(J)I" } : Jvm.MethodName)), (Jvm.Cond.code ({ cls := "OffsetBook", name := "twos", desc := "(J)I" } : Jvm.MethodName) prog_1_method_19_code (3 : Nat) (Option.some Jvm.ClassFile.FieldType.int)), (Jvm.Cond.methodLink "OffsetBook" (182 : Nat) ({ cls := "OffsetBook$Groups", name := "countTwos", desc := "(J)I" } : Jvm.MethodName)), (Jvm.Cond.instanceMethod ({ cls := "OffsetBook$Groups", name := "countTwos", desc := "(J)I" } : Jvm.MethodName)), (Jvm.Cond.selects "OffsetBook$Groups" ({ cls := "OffsetBook$Groups", name := "countTwos", desc := "(J)I" } : Jvm.MethodName) ({ cls := "OffsetBook$Groups", name := "countTwos", desc := "(J)I" } : Jvm.MethodName)), (Jvm.Cond.code ({ cls := "OffsetBook$Groups", name := "countTwos", desc := "(J)I" } : Jvm.MethodName) prog_3_method_11_code (6 : Nat) (Option.some Jvm.ClassFile.FieldType.int)), (Jvm.Cond.methodLink "OffsetBook$Groups" (70 : Nat) ({ cls := "java/lang/Math", name := "abs", desc := "(J)J" } : Jvm.MethodName)), (Jvm.Cond.static ({ cls := "java/lang/Math", name := "abs", desc := "(J)J" } : Jvm.MethodName)), (Jvm.Cond.code ({ cls := "java/lang/Math", name := "abs", desc := "(J)J" } : Jvm.MethodName) prog_12_method_61_code (2 : Nat) (Option.some Jvm.ClassFile.FieldType.long)), (Jvm.Cond.methodLink "OffsetBookLaw" (94 : Nat) ({ cls := "OffsetBook", name := "chain", desc := "(III)I" } : Jvm.MethodName)), (Jvm.Cond.instanceMethod ({ cls := "OffsetBook", name := "chain", desc := "(III)I" } : Jvm.MethodName)), (Jvm.Cond.selects "OffsetBook" ({ cls := "OffsetBook", name := "chain", desc := "(III)I" } : Jvm.MethodName) ({ cls := "OffsetBook", name := "chain", desc := "(III)I" } : Jvm.MethodName)), (Jvm.Cond.code ({ cls := "OffsetBook", name := "chain", desc := "(III)I" } : Jvm.MethodName) prog_1_method_20_code (5 : Nat) (Option.some Jvm.ClassFile.FieldType.int)), (Jvm.Cond.methodLink "OffsetBook" (186 : Nat) ({ cls := "OffsetBook$Web", name := "findChain", desc := "(II)I" } : Jvm.MethodName)), (Jvm.Cond.instanceMethod ({ cls := "OffsetBook$Web", name := "findChain", desc := "(II)I" } : Jvm.MethodName)), (Jvm.Cond.selects "OffsetBook$Web" ({ cls := "OffsetBook$Web", name := "findChain", desc := "(II)I" } : Jvm.MethodName) ({ cls := "OffsetBook$Web", name := "findChain", desc := "(II)I" } : Jvm.MethodName)), (Jvm.Cond.code ({ cls := "OffsetBook$Web", name := "findChain", desc := "(II)I" } : Jvm.MethodName) prog_8_method_9_code (7 : Nat) (Option.some Jvm.ClassFile.FieldType.int)), (Jvm.Cond.methodLink "OffsetBook$Web" (96 : Nat) ({ cls := "OffsetBook$Web", name := "firstNearer", desc := "(I)I" } : Jvm.MethodName)), (Jvm.Cond.instanceMethod ({ cls := "OffsetBook$Web", name := "firstNearer", desc := "(I)I" } : Jvm.MethodName)), (Jvm.Cond.code ({ cls := "OffsetBook$Web", name := "firstNearer", desc := "(I)I" } : Jvm.MethodName) prog_8_method_10_code (3 : Nat) (Option.some Jvm.ClassFile.FieldType.int)), (Jvm.Cond.methodLink "OffsetBookLaw" (99 : Nat) ({ cls := "OffsetBook", name := "cut", desc := "(II)I" } : Jvm.MethodName)), (Jvm.Cond.instanceMethod ({ cls := "OffsetBook", name := "cut", desc := "(II)I" } : Jvm.MethodName)), (Jvm.Cond.selects "OffsetBook" ({ cls := "OffsetBook", name := "cut", desc := "(II)I" } : Jvm.MethodName) ({ cls := "OffsetBook", name := "cut", desc := "(II)I" } : Jvm.MethodName)), (Jvm.Cond.code ({ cls := "OffsetBook", name := "cut", desc := "(II)I" } : Jvm.MethodName) prog_1_method_21_code (4 : Nat) (Option.some Jvm.ClassFile.FieldType.int)), (Jvm.Cond.methodLink "OffsetBook" (193 : Nat) ({ cls := "OffsetBook$Web", name := "findCut", desc := "(II)I" } : Jvm.MethodName)), (Jvm.Cond.instanceMethod ({ cls := "OffsetBook$Web", name := "findCut", desc := "(II)I" } : Jvm.MethodName)), (Jvm.Cond.selects "OffsetBook$Web" ({ cls := "OffsetBook$Web", name := "findCut", desc := "(II)I" } : Jvm.MethodName) ({ cls := "OffsetBook$Web", name := "findCut", desc := "(II)I" } : Jvm.MethodName)), (Jvm.Cond.code ({ cls := "OffsetBook$Web", name := "findCut", desc := "(II)I" } : Jvm.MethodName) prog_8_method_14_code (5 : Nat) (Option.some Jvm.ClassFile.FieldType.int)), (Jvm.Cond.methodLink "OffsetBook$Web" (104 : Nat) ({ cls := "OffsetBook$Web", name := "flowAlong", desc := "(I)V" } : Jvm.MethodName)), (Jvm.Cond.instanceMethod ({ cls := "OffsetBook$Web", name := "flowAlong", desc := "(I)V" } : Jvm.MethodName)), (Jvm.Cond.code ({ cls := "OffsetBook$Web", name := "flowAlong", desc := "(I)V" } : Jvm.MethodName) prog_8_method_16_code (5 : Nat) (Option.none : Option Jvm.ClassFile.FieldType)), (Jvm.Cond.methodLink "OffsetBook$Web" (110 : Nat) ({ cls := "OffsetBook$Web", name := "isReached", desc := "(I)Z" } : Jvm.MethodName)), (Jvm.Cond.instanceMethod ({ cls := "OffsetBook$Web", name := "isReached", desc := "(I)Z" } : Jvm.MethodName)), (Jvm.Cond.code ({ cls := "OffsetBook$Web", name := "isReached", desc := "(I)Z" } : Jvm.MethodName) prog_8_method_15_code (2 : Nat) (Option.some Jvm.ClassFile.FieldType.boolean)), (Jvm.Cond.methodLink "OffsetBookLaw" (103 : Nat) ({ cls := "OffsetBook", name := "blame", desc := "(I)I" } : Jvm.MethodName)), (Jvm.Cond.instanceMethod ({ cls := "OffsetBook", name := "blame", desc := "(I)I" } : Jvm.MethodName)), (Jvm.Cond.selects "OffsetBook" ({ cls := "OffsetBook", name := "blame", desc := "(I)I" } : Jvm.MethodName) ({ cls := "OffsetBook", name := "blame", desc := "(I)I" } : Jvm.MethodName)), (Jvm.Cond.code ({ cls := "OffsetBook", name := "blame", desc := "(I)I" } : Jvm.MethodName) prog_1_method_22_code (3 : Nat) (Option.some Jvm.ClassFile.FieldType.int)), (Jvm.Cond.methodLink "OffsetBook" (196 : Nat) ({ cls := "OffsetBook$Web", name := "clearTimes", desc := "()V" } : Jvm.MethodName)), (Jvm.Cond.instanceMethod ({ cls := "OffsetBook$Web", name := "clearTimes", desc := "()V" } : Jvm.MethodName))]
def ia_Ts_9 : List Cond := [(Jvm.Cond.selects "OffsetBook$Web" ({ cls := "OffsetBook$Web", name := "clearTimes", desc := "()V" } : Jvm.MethodName) ({ cls := "OffsetBook$Web", name := "clearTimes", desc := "()V" } : Jvm.MethodName)), (Jvm.Cond.code ({ cls := "OffsetBook$Web", name := "clearTimes", desc := "()V" } : Jvm.MethodName) prog_8_method_11_code (1 : Nat) (Option.none : Option Jvm.ClassFile.FieldType)), (Jvm.Cond.methodLink "OffsetBook" (199 : Nat) ({ cls := "OffsetBook$Web", name := "countChain", desc := "(II)V" } : Jvm.MethodName)), (Jvm.Cond.instanceMethod ({ cls := "OffsetBook$Web", name := "countChain", desc := "(II)V" } : Jvm.MethodName)), (Jvm.Cond.selects "OffsetBook$Web" ({ cls := "OffsetBook$Web", name := "countChain", desc := "(II)V" } : Jvm.MethodName) ({ cls := "OffsetBook$Web", name := "countChain", desc := "(II)V" } : Jvm.MethodName)), (Jvm.Cond.code ({ cls := "OffsetBook$Web", name := "countChain", desc := "(II)V" } : Jvm.MethodName) prog_8_method_12_code (5 : Nat) (Option.none : Option Jvm.ClassFile.FieldType)), (Jvm.Cond.methodLink "OffsetBook$Web" (100 : Nat) ({ cls := "OffsetBook$Web", name := "findChain", desc := "(II)I" } : Jvm.MethodName)), (Jvm.Cond.methodLink "OffsetBook" (203 : Nat) ({ cls := "OffsetBook$Web", name := "mostOften", desc := "()I" } : Jvm.MethodName)), (Jvm.Cond.instanceMethod ({ cls := "OffsetBook$Web", name := "mostOften", desc := "()I" } : Jvm.MethodName)), (Jvm.Cond.selects "OffsetBook$Web" ({ cls := "OffsetBook$Web", name := "mostOften", desc := "()I" } : Jvm.MethodName) ({ cls := "OffsetBook$Web", name := "mostOften", desc := "()I" } : Jvm.MethodName)), (Jvm.Cond.code ({ cls := "OffsetBook$Web", name := "mostOften", desc := "()I" } : Jvm.MethodName) prog_8_method_13_code (3 : Nat) (Option.some Jvm.ClassFile.FieldType.int)), (Jvm.Cond.methodLink "OffsetBookLaw" (107 : Nat) ({ cls := "OffsetBook", name := "pin", desc := "(III)I" } : Jvm.MethodName)), (Jvm.Cond.instanceMethod ({ cls := "OffsetBook", name := "pin", desc := "(III)I" } : Jvm.MethodName)), (Jvm.Cond.selects "OffsetBook" ({ cls := "OffsetBook", name := "pin", desc := "(III)I" } : Jvm.MethodName) ({ cls := "OffsetBook", name := "pin", desc := "(III)I" } : Jvm.MethodName)), (Jvm.Cond.code ({ cls := "OffsetBook", name := "pin", desc := "(III)I" } : Jvm.MethodName) prog_1_method_23_code (5 : Nat) (Option.some Jvm.ClassFile.FieldType.int)), (Jvm.Cond.methodLink "OffsetBook" (210 : Nat) ({ cls := "OffsetBook$Pins", name := "isRoom", desc := "(II)Z" } : Jvm.MethodName)), (Jvm.Cond.static ({ cls := "OffsetBook$Pins", name := "isRoom", desc := "(II)Z" } : Jvm.MethodName)), (Jvm.Cond.code ({ cls := "OffsetBook$Pins", name := "isRoom", desc := "(II)Z" } : Jvm.MethodName) prog_4_method_2_code (2 : Nat) (Option.some Jvm.ClassFile.FieldType.boolean)), (Jvm.Cond.methodLink "OffsetBook" (214 : Nat) ({ cls := "OffsetBook$Pins", name := "put", desc := "(IIII)Z" } : Jvm.MethodName)), (Jvm.Cond.instanceMethod ({ cls := "OffsetBook$Pins", name := "put", desc := "(IIII)Z" } : Jvm.MethodName)), (Jvm.Cond.selects "OffsetBook$Pins" ({ cls := "OffsetBook$Pins", name := "put", desc := "(IIII)Z" } : Jvm.MethodName) ({ cls := "OffsetBook$Pins", name := "put", desc := "(IIII)Z" } : Jvm.MethodName)), (Jvm.Cond.code ({ cls := "OffsetBook$Pins", name := "put", desc := "(IIII)Z" } : Jvm.MethodName) prog_4_method_3_code (5 : Nat) (Option.some Jvm.ClassFile.FieldType.boolean)), (Jvm.Cond.methodLink "OffsetBookLaw" (111 : Nat) ({ cls := "OffsetBook", name := "pinned", desc := "(II)I" } : Jvm.MethodName)), (Jvm.Cond.instanceMethod ({ cls := "OffsetBook", name := "pinned", desc := "(II)I" } : Jvm.MethodName)), (Jvm.Cond.selects "OffsetBook" ({ cls := "OffsetBook", name := "pinned", desc := "(II)I" } : Jvm.MethodName) ({ cls := "OffsetBook", name := "pinned", desc := "(II)I" } : Jvm.MethodName)), (Jvm.Cond.code ({ cls := "OffsetBook", name := "pinned", desc := "(II)I" } : Jvm.MethodName) prog_1_method_24_code (3 : Nat) (Option.some Jvm.ClassFile.FieldType.int)), (Jvm.Cond.methodLink "OffsetBook" (218 : Nat) ({ cls := "OffsetBook$Pins", name := "at", desc := "(II)I" } : Jvm.MethodName)), (Jvm.Cond.instanceMethod ({ cls := "OffsetBook$Pins", name := "at", desc := "(II)I" } : Jvm.MethodName)), (Jvm.Cond.selects "OffsetBook$Pins" ({ cls := "OffsetBook$Pins", name := "at", desc := "(II)I" } : Jvm.MethodName) ({ cls := "OffsetBook$Pins", name := "at", desc := "(II)I" } : Jvm.MethodName)), (Jvm.Cond.code ({ cls := "OffsetBook$Pins", name := "at", desc := "(II)I" } : Jvm.MethodName) prog_4_method_4_code (3 : Nat) (Option.some Jvm.ClassFile.FieldType.int)), (Jvm.Cond.methodLink "OffsetBookLaw" (115 : Nat) ({ cls := "OffsetBook", name := "image", desc := "(I)I" } : Jvm.MethodName)), (Jvm.Cond.instanceMethod ({ cls := "OffsetBook", name := "image", desc := "(I)I" } : Jvm.MethodName)), (Jvm.Cond.selects "OffsetBook" ({ cls := "OffsetBook", name := "image", desc := "(I)I" } : Jvm.MethodName) ({ cls := "OffsetBook", name := "image", desc := "(I)I" } : Jvm.MethodName)), (Jvm.Cond.code ({ cls := "OffsetBook", name := "image", desc := "(I)I" } : Jvm.MethodName) prog_1_method_25_code (2 : Nat) (Option.some Jvm.ClassFile.FieldType.int)), (Jvm.Cond.methodLink "OffsetBook" (221 : Nat) ({ cls := "OffsetBook$Told", name := "becomeLike", desc := "(LOffsetBook$Told;)V" } : Jvm.MethodName)), (Jvm.Cond.instanceMethod ({ cls := "OffsetBook$Told", name := "becomeLike", desc := "(LOffsetBook$Told;)V" } : Jvm.MethodName)), (Jvm.Cond.selects "OffsetBook$Told" ({ cls := "OffsetBook$Told", name := "becomeLike", desc := "(LOffsetBook$Told;)V" } : Jvm.MethodName) ({ cls := "OffsetBook$Told", name := "becomeLike", desc := "(LOffsetBook$Told;)V" } : Jvm.MethodName)), (Jvm.Cond.code ({ cls := "OffsetBook$Told", name := "becomeLike", desc := "(LOffsetBook$Told;)V" } : Jvm.MethodName) prog_7_method_6_code (3 : Nat) (Option.none : Option Jvm.ClassFile.FieldType)), (Jvm.Cond.methodLink "OffsetBook$Told" (55 : Nat) ({ cls := "OffsetBook$Told", name := "draftStatement", desc := "(IIIJ)V" } : Jvm.MethodName)), (Jvm.Cond.methodLink "OffsetBookLaw" (119 : Nat) ({ cls := "OffsetBook", name := "back", desc := "(I)I" } : Jvm.MethodName)), (Jvm.Cond.instanceMethod ({ cls := "OffsetBook", name := "back", desc := "(I)I" } : Jvm.MethodName)), (Jvm.Cond.selects "OffsetBook" ({ cls := "OffsetBook", name := "back", desc := "(I)I" } : Jvm.MethodName) ({ cls := "OffsetBook", name := "back", desc := "(I)I" } : Jvm.MethodName)), (Jvm.Cond.code ({ cls := "OffsetBook", name := "back", desc := "(I)I" } : Jvm.MethodName) prog_1_method_26_code (2 : Nat) (Option.some Jvm.ClassFile.FieldType.int)), (Jvm.Cond.methodLink "OffsetBookLaw" (123 : Nat) ({ cls := "OffsetBook", name := "count", desc := "(I)I" } : Jvm.MethodName)), (Jvm.Cond.instanceMethod ({ cls := "OffsetBook", name := "count", desc := "(I)I" } : Jvm.MethodName)), (Jvm.Cond.selects "OffsetBook" ({ cls := "OffsetBook", name := "count", desc := "(I)I" } : Jvm.MethodName) ({ cls := "OffsetBook", name := "count", desc := "(I)I" } : Jvm.MethodName)), (Jvm.Cond.code ({ cls := "OffsetBook", name := "count", desc := "(I)I" } : Jvm.MethodName) prog_1_method_27_code (2 : Nat) (Option.some Jvm.ClassFile.FieldType.int)), (Jvm.Cond.methodLink "OffsetBook" (227 : Nat) ({ cls := "OffsetBook$Groups", name := "countGroups", desc := "(I)I" } : Jvm.MethodName)), (Jvm.Cond.instanceMethod ({ cls := "OffsetBook$Groups", name := "countGroups", desc := "(I)I" } : Jvm.MethodName)), (Jvm.Cond.selects "OffsetBook$Groups" ({ cls := "OffsetBook$Groups", name := "countGroups", desc := "(I)I" } : Jvm.MethodName) ({ cls := "OffsetBook$Groups", name := "countGroups", desc := "(I)I" } : Jvm.MethodName)), (Jvm.Cond.code ({ cls := "OffsetBook$Groups", name := "countGroups", desc := "(I)I" } : Jvm.MethodName) prog_3_method_13_code (4 : Nat) (Option.some Jvm.ClassFile.FieldType.int)), (Jvm.Cond.methodLink "OffsetBook" (230 : Nat) ({ cls := "OffsetBook$Groups", name := "countKnownTwos", desc := "()I" } : Jvm.MethodName)), (Jvm.Cond.instanceMethod ({ cls := "OffsetBook$Groups", name := "countKnownTwos", desc := "()I" } : Jvm.MethodName)), (Jvm.Cond.selects "OffsetBook$Groups" ({ cls := "OffsetBook$Groups", name := "countKnownTwos", desc := "()I" } : Jvm.MethodName) ({ cls := "OffsetBook$Groups", name := "countKnownTwos", desc := "()I" } : Jvm.MethodName)), (Jvm.Cond.code ({ cls := "OffsetBook$Groups", name := "countKnownTwos", desc := "()I" } : Jvm.MethodName) prog_3_method_12_code (4 : Nat) (Option.some Jvm.ClassFile.FieldType.int)), (Jvm.Cond.methodLink "OffsetBook" (233 : Nat) ({ cls := "OffsetBook", name := "countHanging", desc := "()I" } : Jvm.MethodName)), (Jvm.Cond.instanceMethod ({ cls := "OffsetBook", name := "countHanging", desc := "()I" } : Jvm.MethodName)), (Jvm.Cond.code ({ cls := "OffsetBook", name := "countHanging", desc := "()I" } : Jvm.MethodName) prog_1_method_34_code (3 : Nat) (Option.some Jvm.ClassFile.FieldType.int)), (Jvm.Cond.methodLink "OffsetBookLaw" (12 : Nat) ({ cls := "OffsetBookModel", name := "<init>", desc := "()V" } : Jvm.MethodName)), (Jvm.Cond.instanceMethod ({ cls := "OffsetBookModel", name := "<init>", desc := "()V" } : Jvm.MethodName))]
def ia_Ts_10 : List Cond := [(Jvm.Cond.code ({ cls := "OffsetBookModel", name := "<init>", desc := "()V" } : Jvm.MethodName) prog_10_method_1_code (2 : Nat) (Option.none : Option Jvm.ClassFile.FieldType)), (Jvm.Cond.methodLink "OffsetBookModel" (3 : Nat) ({ cls := "java/lang/Object", name := "<init>", desc := "()V" } : Jvm.MethodName)), (Jvm.Cond.methodLink "OffsetBookModel" (88 : Nat) ({ cls := "OffsetBookModel", name := "judges", desc := "()V" } : Jvm.MethodName)), (Jvm.Cond.instanceMethod ({ cls := "OffsetBookModel", name := "judges", desc := "()V" } : Jvm.MethodName)), (Jvm.Cond.code ({ cls := "OffsetBookModel", name := "judges", desc := "()V" } : Jvm.MethodName) prog_10_method_22_code (2 : Nat) (Option.none : Option Jvm.ClassFile.FieldType)), (Jvm.Cond.methodLink "OffsetBookModel" (172 : Nat) ({ cls := "OffsetBookModel", name := "judgedAs", desc := "(I)I" } : Jvm.MethodName)), (Jvm.Cond.instanceMethod ({ cls := "OffsetBookModel", name := "judgedAs", desc := "(I)I" } : Jvm.MethodName)), (Jvm.Cond.code ({ cls := "OffsetBookModel", name := "judgedAs", desc := "(I)I" } : Jvm.MethodName) prog_10_method_20_code (14 : Nat) (Option.some Jvm.ClassFile.FieldType.int)), (Jvm.Cond.constantLong "OffsetBookModel" (175 : Nat) (1000000000000000000 : Int64)), (Jvm.Cond.methodLink "OffsetBookModel" (177 : Nat) ({ cls := "OffsetBookModel", name := "joins", desc := "(I)V" } : Jvm.MethodName)), (Jvm.Cond.instanceMethod ({ cls := "OffsetBookModel", name := "joins", desc := "(I)V" } : Jvm.MethodName)), (Jvm.Cond.code ({ cls := "OffsetBookModel", name := "joins", desc := "(I)V" } : Jvm.MethodName) prog_10_method_21_code (10 : Nat) (Option.none : Option Jvm.ClassFile.FieldType)), (Jvm.Cond.fieldLink "OffsetBookModel" (9 : Nat) "OffsetBookModel" "tape" "[B"), (Jvm.Cond.fieldLink "OffsetBookModel" (91 : Nat) "OffsetBookModel" "taped" "I"), (Jvm.Cond.fieldLink "OffsetBookModel" (101 : Nat) "OffsetBookModel" "at" "I"), (Jvm.Cond.fieldLink "OffsetBookModel" (98 : Nat) "OffsetBookModel" "wrong" "I"), (Jvm.Cond.fieldLink "OffsetBookModel" (84 : Nat) "OffsetBookModel" "gauges" "I"), (Jvm.Cond.fieldLink "OffsetBookModel" (15 : Nat) "OffsetBookModel" "name" "[I"), (Jvm.Cond.fieldLink "OffsetBookModel" (126 : Nat) "OffsetBookModel" "gaugesRead" "I"), (Jvm.Cond.fieldLink "OffsetBookModel" (19 : Nat) "OffsetBookModel" "letters" "[I"), (Jvm.Cond.fieldLink "OffsetBookModel" (132 : Nat) "OffsetBookModel" "gaugeRead" "I"), (Jvm.Cond.fieldLink "OffsetBookModel" (138 : Nat) "OffsetBookModel" "numberRead" "J"), (Jvm.Cond.fieldLink "OffsetBookModel" (159 : Nat) "OffsetBookModel" "statements" "I"), (Jvm.Cond.fieldLink "OffsetBookModel" (22 : Nat) "OffsetBookModel" "one" "[I"), (Jvm.Cond.fieldLink "OffsetBookModel" (25 : Nat) "OffsetBookModel" "other" "[I"), (Jvm.Cond.fieldLink "OffsetBookModel" (28 : Nat) "OffsetBookModel" "amounts" "[J"), (Jvm.Cond.fieldLink "OffsetBookModel" (32 : Nat) "OffsetBookModel" "isOut" "[Z"), (Jvm.Cond.fieldLink "OffsetBookModel" (146 : Nat) "OffsetBookModel" "statementsRead" "I"), (Jvm.Cond.fieldLink "OffsetBookModel" (36 : Nat) "OffsetBookModel" "groupOf" "[I"), (Jvm.Cond.fieldLink "OffsetBookModel" (39 : Nat) "OffsetBookModel" "by" "[J"), (Jvm.Cond.fieldLink "OffsetBookModel" (42 : Nat) "OffsetBookModel" "kind" "[I"), (Jvm.Cond.fieldLink "OffsetBookModel" (45 : Nat) "OffsetBookModel" "held" "[I"), (Jvm.Cond.fieldLink "OffsetBookModel" (48 : Nat) "OffsetBookModel" "heldAmount" "[J"), (Jvm.Cond.fieldLink "OffsetBookModel" (51 : Nat) "OffsetBookModel" "hasImage" "[Z"), (Jvm.Cond.fieldLink "OffsetBookModel" (194 : Nat) "OffsetBookModel" "undone" "I"), (Jvm.Cond.fieldLink "OffsetBookModel" (54 : Nat) "OffsetBookModel" "isReached" "[Z"), (Jvm.Cond.fieldLink "OffsetBookModel" (57 : Nat) "OffsetBookModel" "queue" "[I"), (Jvm.Cond.fieldLink "OffsetBookModel" (60 : Nat) "OffsetBookModel" "row" "[I"), (Jvm.Cond.fieldLink "OffsetBookModel" (63 : Nat) "OffsetBookModel" "far" "[I"), (Jvm.Cond.fieldLink "OffsetBookModel" (66 : Nat) "OffsetBookModel" "link" "[I"), (Jvm.Cond.fieldLink "OffsetBookModel" (69 : Nat) "OffsetBookModel" "inChains" "[I"), (Jvm.Cond.fieldLink "OffsetBookModel" (72 : Nat) "OffsetBookModel" "flow" "[I"), (Jvm.Cond.fieldLink "OffsetBookModel" (75 : Nat) "OffsetBookModel" "cameBy" "[I"), (Jvm.Cond.fieldLink "OffsetBookModel" (78 : Nat) "OffsetBookModel" "pinSort" "[I"), (Jvm.Cond.fieldLink "OffsetBookModel" (81 : Nat) "OffsetBookModel" "room" "[I"), (Jvm.Cond.laysFinal "OffsetBookModel" "OffsetBookModel" "tape" "[B"), (Jvm.Cond.lays "OffsetBookModel" "OffsetBookModel" "taped" "I"), (Jvm.Cond.lays "OffsetBookModel" "OffsetBookModel" "at" "I"), (Jvm.Cond.lays "OffsetBookModel" "OffsetBookModel" "wrong" "I"), (Jvm.Cond.lays "OffsetBookModel" "OffsetBookModel" "gauges" "I"), (Jvm.Cond.laysFinal "OffsetBookModel" "OffsetBookModel" "name" "[I"), (Jvm.Cond.lays "OffsetBookModel" "OffsetBookModel" "gaugesRead" "I"), (Jvm.Cond.laysFinal "OffsetBookModel" "OffsetBookModel" "letters" "[I"), (Jvm.Cond.lays "OffsetBookModel" "OffsetBookModel" "gaugeRead" "I"), (Jvm.Cond.lays "OffsetBookModel" "OffsetBookModel" "numberRead" "J"), (Jvm.Cond.lays "OffsetBookModel" "OffsetBookModel" "statements" "I"), (Jvm.Cond.laysFinal "OffsetBookModel" "OffsetBookModel" "one" "[I"), (Jvm.Cond.laysFinal "OffsetBookModel" "OffsetBookModel" "other" "[I"), (Jvm.Cond.laysFinal "OffsetBookModel" "OffsetBookModel" "amounts" "[J"), (Jvm.Cond.laysFinal "OffsetBookModel" "OffsetBookModel" "isOut" "[Z")]
def ia_Ts_11 : List Cond := [(Jvm.Cond.lays "OffsetBookModel" "OffsetBookModel" "statementsRead" "I"), (Jvm.Cond.laysFinal "OffsetBookModel" "OffsetBookModel" "groupOf" "[I"), (Jvm.Cond.laysFinal "OffsetBookModel" "OffsetBookModel" "by" "[J"), (Jvm.Cond.laysFinal "OffsetBookModel" "OffsetBookModel" "kind" "[I"), (Jvm.Cond.laysFinal "OffsetBookModel" "OffsetBookModel" "held" "[I"), (Jvm.Cond.laysFinal "OffsetBookModel" "OffsetBookModel" "heldAmount" "[J"), (Jvm.Cond.laysFinal "OffsetBookModel" "OffsetBookModel" "hasImage" "[Z"), (Jvm.Cond.lays "OffsetBookModel" "OffsetBookModel" "undone" "I"), (Jvm.Cond.laysFinal "OffsetBookModel" "OffsetBookModel" "isReached" "[Z"), (Jvm.Cond.laysFinal "OffsetBookModel" "OffsetBookModel" "queue" "[I"), (Jvm.Cond.laysFinal "OffsetBookModel" "OffsetBookModel" "row" "[I"), (Jvm.Cond.laysFinal "OffsetBookModel" "OffsetBookModel" "far" "[I"), (Jvm.Cond.laysFinal "OffsetBookModel" "OffsetBookModel" "link" "[I"), (Jvm.Cond.laysFinal "OffsetBookModel" "OffsetBookModel" "inChains" "[I"), (Jvm.Cond.laysFinal "OffsetBookModel" "OffsetBookModel" "flow" "[I"), (Jvm.Cond.laysFinal "OffsetBookModel" "OffsetBookModel" "cameBy" "[I"), (Jvm.Cond.laysFinal "OffsetBookModel" "OffsetBookModel" "pinSort" "[I"), (Jvm.Cond.laysFinal "OffsetBookModel" "OffsetBookModel" "room" "[I"), (Jvm.Cond.methodLink "OffsetBookLaw" (17 : Nat) ({ cls := "OffsetBookModel", name := "feed", desc := "(IIIII)I" } : Jvm.MethodName)), (Jvm.Cond.instanceMethod ({ cls := "OffsetBookModel", name := "feed", desc := "(IIIII)I" } : Jvm.MethodName)), (Jvm.Cond.selects "OffsetBookModel" ({ cls := "OffsetBookModel", name := "feed", desc := "(IIIII)I" } : Jvm.MethodName) ({ cls := "OffsetBookModel", name := "feed", desc := "(IIIII)I" } : Jvm.MethodName)), (Jvm.Cond.code ({ cls := "OffsetBookModel", name := "feed", desc := "(IIIII)I" } : Jvm.MethodName) prog_10_method_3_code (8 : Nat) (Option.some Jvm.ClassFile.FieldType.int)), (Jvm.Cond.methodLink "OffsetBookLaw" (22 : Nat) ({ cls := "OffsetBookModel", name := "end", desc := "(I)I" } : Jvm.MethodName)), (Jvm.Cond.instanceMethod ({ cls := "OffsetBookModel", name := "end", desc := "(I)I" } : Jvm.MethodName)), (Jvm.Cond.selects "OffsetBookModel" ({ cls := "OffsetBookModel", name := "end", desc := "(I)I" } : Jvm.MethodName) ({ cls := "OffsetBookModel", name := "end", desc := "(I)I" } : Jvm.MethodName)), (Jvm.Cond.code ({ cls := "OffsetBookModel", name := "end", desc := "(I)I" } : Jvm.MethodName) prog_10_method_4_code (2 : Nat) (Option.some Jvm.ClassFile.FieldType.int)), (Jvm.Cond.methodLink "OffsetBookModel" (94 : Nat) ({ cls := "OffsetBookModel", name := "isIn", desc := "(JJJ)Z" } : Jvm.MethodName)), (Jvm.Cond.static ({ cls := "OffsetBookModel", name := "isIn", desc := "(JJJ)Z" } : Jvm.MethodName)), (Jvm.Cond.code ({ cls := "OffsetBookModel", name := "isIn", desc := "(JJJ)Z" } : Jvm.MethodName) prog_10_method_2_code (6 : Nat) (Option.some Jvm.ClassFile.FieldType.boolean)), (Jvm.Cond.methodLink "OffsetBookLaw" (27 : Nat) ({ cls := "OffsetBookModel", name := "tell", desc := "()I" } : Jvm.MethodName)), (Jvm.Cond.instanceMethod ({ cls := "OffsetBookModel", name := "tell", desc := "()I" } : Jvm.MethodName)), (Jvm.Cond.selects "OffsetBookModel" ({ cls := "OffsetBookModel", name := "tell", desc := "()I" } : Jvm.MethodName) ({ cls := "OffsetBookModel", name := "tell", desc := "()I" } : Jvm.MethodName)), (Jvm.Cond.code ({ cls := "OffsetBookModel", name := "tell", desc := "()I" } : Jvm.MethodName) prog_10_method_18_code (2 : Nat) (Option.some Jvm.ClassFile.FieldType.int)), (Jvm.Cond.methodLink "OffsetBookModel" (165 : Nat) ({ cls := "OffsetBookModel", name := "readsAll", desc := "(Z)Z" } : Jvm.MethodName)), (Jvm.Cond.instanceMethod ({ cls := "OffsetBookModel", name := "readsAll", desc := "(Z)Z" } : Jvm.MethodName)), (Jvm.Cond.code ({ cls := "OffsetBookModel", name := "readsAll", desc := "(Z)Z" } : Jvm.MethodName) prog_10_method_17_code (4 : Nat) (Option.some Jvm.ClassFile.FieldType.boolean)), (Jvm.Cond.methodLink "OffsetBookModel" (162 : Nat) ({ cls := "OffsetBookModel", name := "readsStatement", desc := "(I)Z" } : Jvm.MethodName)), (Jvm.Cond.instanceMethod ({ cls := "OffsetBookModel", name := "readsStatement", desc := "(I)Z" } : Jvm.MethodName)), (Jvm.Cond.code ({ cls := "OffsetBookModel", name := "readsStatement", desc := "(I)Z" } : Jvm.MethodName) prog_10_method_16_code (7 : Nat) (Option.some Jvm.ClassFile.FieldType.boolean)), (Jvm.Cond.methodLink "OffsetBookModel" (108 : Nat) ({ cls := "OffsetBookModel", name := "next", desc := "()I" } : Jvm.MethodName)), (Jvm.Cond.instanceMethod ({ cls := "OffsetBookModel", name := "next", desc := "()I" } : Jvm.MethodName)), (Jvm.Cond.code ({ cls := "OffsetBookModel", name := "next", desc := "()I" } : Jvm.MethodName) prog_10_method_7_code (1 : Nat) (Option.some Jvm.ClassFile.FieldType.int)), (Jvm.Cond.methodLink "OffsetBookModel" (104 : Nat) ({ cls := "OffsetBookModel", name := "byteAt", desc := "(I)I" } : Jvm.MethodName)), (Jvm.Cond.instanceMethod ({ cls := "OffsetBookModel", name := "byteAt", desc := "(I)I" } : Jvm.MethodName)), (Jvm.Cond.code ({ cls := "OffsetBookModel", name := "byteAt", desc := "(I)I" } : Jvm.MethodName) prog_10_method_6_code (2 : Nat) (Option.some Jvm.ClassFile.FieldType.int)), (Jvm.Cond.methodLink "OffsetBookModel" (112 : Nat) ({ cls := "OffsetBookModel", name := "isLetter", desc := "(I)Z" } : Jvm.MethodName)), (Jvm.Cond.static ({ cls := "OffsetBookModel", name := "isLetter", desc := "(I)Z" } : Jvm.MethodName)), (Jvm.Cond.code ({ cls := "OffsetBookModel", name := "isLetter", desc := "(I)Z" } : Jvm.MethodName) prog_10_method_8_code (1 : Nat) (Option.some Jvm.ClassFile.FieldType.boolean)), (Jvm.Cond.methodLink "OffsetBookModel" (122 : Nat) ({ cls := "OffsetBookModel", name := "fails", desc := "(II)Z" } : Jvm.MethodName)), (Jvm.Cond.instanceMethod ({ cls := "OffsetBookModel", name := "fails", desc := "(II)Z" } : Jvm.MethodName)), (Jvm.Cond.code ({ cls := "OffsetBookModel", name := "fails", desc := "(II)Z" } : Jvm.MethodName) prog_10_method_5_code (3 : Nat) (Option.some Jvm.ClassFile.FieldType.boolean)), (Jvm.Cond.methodLink "OffsetBookModel" (149 : Nat) ({ cls := "OffsetBookModel", name := "readsName", desc := "(I)Z" } : Jvm.MethodName)), (Jvm.Cond.instanceMethod ({ cls := "OffsetBookModel", name := "readsName", desc := "(I)Z" } : Jvm.MethodName)), (Jvm.Cond.code ({ cls := "OffsetBookModel", name := "readsName", desc := "(I)Z" } : Jvm.MethodName) prog_10_method_14_code (5 : Nat) (Option.some Jvm.ClassFile.FieldType.boolean)), (Jvm.Cond.methodLink "OffsetBookModel" (119 : Nat) ({ cls := "OffsetBookModel", name := "readsLetters", desc := "()I" } : Jvm.MethodName)), (Jvm.Cond.instanceMethod ({ cls := "OffsetBookModel", name := "readsLetters", desc := "()I" } : Jvm.MethodName)), (Jvm.Cond.code ({ cls := "OffsetBookModel", name := "readsLetters", desc := "()I" } : Jvm.MethodName) prog_10_method_11_code (2 : Nat) (Option.some Jvm.ClassFile.FieldType.int)), (Jvm.Cond.methodLink "OffsetBookModel" (129 : Nat) ({ cls := "OffsetBookModel", name := "gaugeNamed", desc := "(I)I" } : Jvm.MethodName)), (Jvm.Cond.instanceMethod ({ cls := "OffsetBookModel", name := "gaugeNamed", desc := "(I)I" } : Jvm.MethodName)), (Jvm.Cond.code ({ cls := "OffsetBookModel", name := "gaugeNamed", desc := "(I)I" } : Jvm.MethodName) prog_10_method_13_code (3 : Nat) (Option.some Jvm.ClassFile.FieldType.int))]
def ia_Ts_12 : List Cond := [(Jvm.Cond.methodLink "OffsetBookModel" (116 : Nat) ({ cls := "OffsetBookModel", name := "isNamed", desc := "(I)Z" } : Jvm.MethodName)), (Jvm.Cond.instanceMethod ({ cls := "OffsetBookModel", name := "isNamed", desc := "(I)Z" } : Jvm.MethodName)), (Jvm.Cond.code ({ cls := "OffsetBookModel", name := "isNamed", desc := "(I)Z" } : Jvm.MethodName) prog_10_method_12_code (3 : Nat) (Option.some Jvm.ClassFile.FieldType.boolean)), (Jvm.Cond.methodLink "OffsetBookModel" (152 : Nat) ({ cls := "OffsetBookModel", name := "takes", desc := "(I)Z" } : Jvm.MethodName)), (Jvm.Cond.instanceMethod ({ cls := "OffsetBookModel", name := "takes", desc := "(I)Z" } : Jvm.MethodName)), (Jvm.Cond.code ({ cls := "OffsetBookModel", name := "takes", desc := "(I)Z" } : Jvm.MethodName) prog_10_method_10_code (2 : Nat) (Option.some Jvm.ClassFile.FieldType.boolean)), (Jvm.Cond.methodLink "OffsetBookModel" (155 : Nat) ({ cls := "OffsetBookModel", name := "readsNumber", desc := "()Z" } : Jvm.MethodName)), (Jvm.Cond.instanceMethod ({ cls := "OffsetBookModel", name := "readsNumber", desc := "()Z" } : Jvm.MethodName)), (Jvm.Cond.code ({ cls := "OffsetBookModel", name := "readsNumber", desc := "()Z" } : Jvm.MethodName) prog_10_method_15_code (2 : Nat) (Option.some Jvm.ClassFile.FieldType.boolean)), (Jvm.Cond.methodLink "OffsetBookModel" (135 : Nat) ({ cls := "OffsetBookModel", name := "isDigit", desc := "(I)Z" } : Jvm.MethodName)), (Jvm.Cond.static ({ cls := "OffsetBookModel", name := "isDigit", desc := "(I)Z" } : Jvm.MethodName)), (Jvm.Cond.code ({ cls := "OffsetBookModel", name := "isDigit", desc := "(I)Z" } : Jvm.MethodName) prog_10_method_9_code (1 : Nat) (Option.some Jvm.ClassFile.FieldType.boolean)), (Jvm.Cond.constantLong "OffsetBookModel" (142 : Nat) (10 : Int64)), (Jvm.Cond.constantLong "OffsetBookModel" (144 : Nat) (48 : Int64)), (Jvm.Cond.methodLink "OffsetBookModel" (169 : Nat) ({ cls := "OffsetBookModel", name := "keepsAct", desc := "()V" } : Jvm.MethodName)), (Jvm.Cond.instanceMethod ({ cls := "OffsetBookModel", name := "keepsAct", desc := "()V" } : Jvm.MethodName)), (Jvm.Cond.code ({ cls := "OffsetBookModel", name := "keepsAct", desc := "()V" } : Jvm.MethodName) prog_10_method_32_code (2 : Nat) (Option.none : Option Jvm.ClassFile.FieldType)), (Jvm.Cond.methodLink "OffsetBookModel" (197 : Nat) ({ cls := "OffsetBookModel", name := "keepsTold", desc := "()V" } : Jvm.MethodName)), (Jvm.Cond.instanceMethod ({ cls := "OffsetBookModel", name := "keepsTold", desc := "()V" } : Jvm.MethodName)), (Jvm.Cond.code ({ cls := "OffsetBookModel", name := "keepsTold", desc := "()V" } : Jvm.MethodName) prog_10_method_33_code (1 : Nat) (Option.none : Option Jvm.ClassFile.FieldType)), (Jvm.Cond.methodLink "OffsetBookModel" (200 : Nat) ({ cls := "OffsetBookModel", name := "keeps", desc := "(I)V" } : Jvm.MethodName)), (Jvm.Cond.instanceMethod ({ cls := "OffsetBookModel", name := "keeps", desc := "(I)V" } : Jvm.MethodName)), (Jvm.Cond.code ({ cls := "OffsetBookModel", name := "keeps", desc := "(I)V" } : Jvm.MethodName) prog_10_method_30_code (4 : Nat) (Option.none : Option Jvm.ClassFile.FieldType)), (Jvm.Cond.methodLink "OffsetBookLaw" (31 : Nat) ({ cls := "OffsetBookModel", name := "test", desc := "()I" } : Jvm.MethodName)), (Jvm.Cond.instanceMethod ({ cls := "OffsetBookModel", name := "test", desc := "()I" } : Jvm.MethodName)), (Jvm.Cond.selects "OffsetBookModel" ({ cls := "OffsetBookModel", name := "test", desc := "()I" } : Jvm.MethodName) ({ cls := "OffsetBookModel", name := "test", desc := "()I" } : Jvm.MethodName)), (Jvm.Cond.code ({ cls := "OffsetBookModel", name := "test", desc := "()I" } : Jvm.MethodName) prog_10_method_19_code (4 : Nat) (Option.some Jvm.ClassFile.FieldType.int)), (Jvm.Cond.methodLink "OffsetBookLaw" (35 : Nat) ({ cls := "OffsetBookModel", name := "retract", desc := "(I)I" } : Jvm.MethodName)), (Jvm.Cond.instanceMethod ({ cls := "OffsetBookModel", name := "retract", desc := "(I)I" } : Jvm.MethodName)), (Jvm.Cond.selects "OffsetBookModel" ({ cls := "OffsetBookModel", name := "retract", desc := "(I)I" } : Jvm.MethodName) ({ cls := "OffsetBookModel", name := "retract", desc := "(I)I" } : Jvm.MethodName)), (Jvm.Cond.code ({ cls := "OffsetBookModel", name := "retract", desc := "(I)I" } : Jvm.MethodName) prog_10_method_28_code (2 : Nat) (Option.some Jvm.ClassFile.FieldType.int)), (Jvm.Cond.methodLink "OffsetBookModel" (190 : Nat) ({ cls := "OffsetBookModel", name := "turns", desc := "(IZ)I" } : Jvm.MethodName)), (Jvm.Cond.instanceMethod ({ cls := "OffsetBookModel", name := "turns", desc := "(IZ)I" } : Jvm.MethodName)), (Jvm.Cond.code ({ cls := "OffsetBookModel", name := "turns", desc := "(IZ)I" } : Jvm.MethodName) prog_10_method_27_code (3 : Nat) (Option.some Jvm.ClassFile.FieldType.int)), (Jvm.Cond.methodLink "OffsetBookModel" (184 : Nat) ({ cls := "OffsetBookModel", name := "isStatement", desc := "(I)Z" } : Jvm.MethodName)), (Jvm.Cond.instanceMethod ({ cls := "OffsetBookModel", name := "isStatement", desc := "(I)Z" } : Jvm.MethodName)), (Jvm.Cond.code ({ cls := "OffsetBookModel", name := "isStatement", desc := "(I)Z" } : Jvm.MethodName) prog_10_method_23_code (2 : Nat) (Option.some Jvm.ClassFile.FieldType.boolean)), (Jvm.Cond.methodLink "OffsetBookModel" (187 : Nat) ({ cls := "OffsetBookModel", name := "standing", desc := "()I" } : Jvm.MethodName)), (Jvm.Cond.instanceMethod ({ cls := "OffsetBookModel", name := "standing", desc := "()I" } : Jvm.MethodName)), (Jvm.Cond.code ({ cls := "OffsetBookModel", name := "standing", desc := "()I" } : Jvm.MethodName) prog_10_method_26_code (1 : Nat) (Option.some Jvm.ClassFile.FieldType.int)), (Jvm.Cond.methodLink "OffsetBookModel" (181 : Nat) ({ cls := "OffsetBookModel", name := "manyOf", desc := "(I)I" } : Jvm.MethodName)), (Jvm.Cond.instanceMethod ({ cls := "OffsetBookModel", name := "manyOf", desc := "(I)I" } : Jvm.MethodName)), (Jvm.Cond.code ({ cls := "OffsetBookModel", name := "manyOf", desc := "(I)I" } : Jvm.MethodName) prog_10_method_25_code (4 : Nat) (Option.some Jvm.ClassFile.FieldType.int)), (Jvm.Cond.methodLink "OffsetBookLaw" (39 : Nat) ({ cls := "OffsetBookModel", name := "restore", desc := "(I)I" } : Jvm.MethodName)), (Jvm.Cond.instanceMethod ({ cls := "OffsetBookModel", name := "restore", desc := "(I)I" } : Jvm.MethodName)), (Jvm.Cond.selects "OffsetBookModel" ({ cls := "OffsetBookModel", name := "restore", desc := "(I)I" } : Jvm.MethodName) ({ cls := "OffsetBookModel", name := "restore", desc := "(I)I" } : Jvm.MethodName)), (Jvm.Cond.code ({ cls := "OffsetBookModel", name := "restore", desc := "(I)I" } : Jvm.MethodName) prog_10_method_29_code (2 : Nat) (Option.some Jvm.ClassFile.FieldType.int)), (Jvm.Cond.methodLink "OffsetBookLaw" (43 : Nat) ({ cls := "OffsetBookModel", name := "undo", desc := "()I" } : Jvm.MethodName)), (Jvm.Cond.instanceMethod ({ cls := "OffsetBookModel", name := "undo", desc := "()I" } : Jvm.MethodName)), (Jvm.Cond.selects "OffsetBookModel" ({ cls := "OffsetBookModel", name := "undo", desc := "()I" } : Jvm.MethodName) ({ cls := "OffsetBookModel", name := "undo", desc := "()I" } : Jvm.MethodName)), (Jvm.Cond.code ({ cls := "OffsetBookModel", name := "undo", desc := "()I" } : Jvm.MethodName) prog_10_method_34_code (1 : Nat) (Option.some Jvm.ClassFile.FieldType.int)), (Jvm.Cond.methodLink "OffsetBookModel" (203 : Nat) ({ cls := "OffsetBookModel", name := "goesBackTo", desc := "(I)V" } : Jvm.MethodName)), (Jvm.Cond.instanceMethod ({ cls := "OffsetBookModel", name := "goesBackTo", desc := "(I)V" } : Jvm.MethodName)), (Jvm.Cond.code ({ cls := "OffsetBookModel", name := "goesBackTo", desc := "(I)V" } : Jvm.MethodName) prog_10_method_31_code (4 : Nat) (Option.none : Option Jvm.ClassFile.FieldType)), (Jvm.Cond.methodLink "OffsetBookLaw" (118 : Nat) ({ cls := "OffsetBookModel", name := "image", desc := "(I)I" } : Jvm.MethodName)), (Jvm.Cond.instanceMethod ({ cls := "OffsetBookModel", name := "image", desc := "(I)I" } : Jvm.MethodName)), (Jvm.Cond.selects "OffsetBookModel" ({ cls := "OffsetBookModel", name := "image", desc := "(I)I" } : Jvm.MethodName) ({ cls := "OffsetBookModel", name := "image", desc := "(I)I" } : Jvm.MethodName)), (Jvm.Cond.code ({ cls := "OffsetBookModel", name := "image", desc := "(I)I" } : Jvm.MethodName) prog_10_method_35_code (2 : Nat) (Option.some Jvm.ClassFile.FieldType.int)), (Jvm.Cond.methodLink "OffsetBookLaw" (122 : Nat) ({ cls := "OffsetBookModel", name := "back", desc := "(I)I" } : Jvm.MethodName)), (Jvm.Cond.instanceMethod ({ cls := "OffsetBookModel", name := "back", desc := "(I)I" } : Jvm.MethodName))]
def ia_Ts_13 : List Cond := [(Jvm.Cond.selects "OffsetBookModel" ({ cls := "OffsetBookModel", name := "back", desc := "(I)I" } : Jvm.MethodName) ({ cls := "OffsetBookModel", name := "back", desc := "(I)I" } : Jvm.MethodName)), (Jvm.Cond.code ({ cls := "OffsetBookModel", name := "back", desc := "(I)I" } : Jvm.MethodName) prog_10_method_36_code (2 : Nat) (Option.some Jvm.ClassFile.FieldType.int)), (Jvm.Cond.methodLink "OffsetBookLaw" (48 : Nat) ({ cls := "OffsetBookModel", name := "statement", desc := "(II)I" } : Jvm.MethodName)), (Jvm.Cond.instanceMethod ({ cls := "OffsetBookModel", name := "statement", desc := "(II)I" } : Jvm.MethodName)), (Jvm.Cond.selects "OffsetBookModel" ({ cls := "OffsetBookModel", name := "statement", desc := "(II)I" } : Jvm.MethodName) ({ cls := "OffsetBookModel", name := "statement", desc := "(II)I" } : Jvm.MethodName)), (Jvm.Cond.code ({ cls := "OffsetBookModel", name := "statement", desc := "(II)I" } : Jvm.MethodName) prog_10_method_40_code (3 : Nat) (Option.some Jvm.ClassFile.FieldType.int)), (Jvm.Cond.constantLong "OffsetBookModel" (216 : Nat) (4 : Int64)), (Jvm.Cond.methodLink "OffsetBookModel" (218 : Nat) ({ cls := "OffsetBookModel", name := "rely", desc := "(I)I" } : Jvm.MethodName)), (Jvm.Cond.instanceMethod ({ cls := "OffsetBookModel", name := "rely", desc := "(I)I" } : Jvm.MethodName)), (Jvm.Cond.code ({ cls := "OffsetBookModel", name := "rely", desc := "(I)I" } : Jvm.MethodName) prog_10_method_39_code (3 : Nat) (Option.some Jvm.ClassFile.FieldType.int)), (Jvm.Cond.methodLink "OffsetBookModel" (206 : Nat) ({ cls := "OffsetBookModel", name := "isStanding", desc := "(I)Z" } : Jvm.MethodName)), (Jvm.Cond.instanceMethod ({ cls := "OffsetBookModel", name := "isStanding", desc := "(I)Z" } : Jvm.MethodName)), (Jvm.Cond.code ({ cls := "OffsetBookModel", name := "isStanding", desc := "(I)Z" } : Jvm.MethodName) prog_10_method_24_code (2 : Nat) (Option.some Jvm.ClassFile.FieldType.boolean)), (Jvm.Cond.methodLink "OffsetBookModel" (209 : Nat) ({ cls := "OffsetBookModel", name := "reaches", desc := "(II)I" } : Jvm.MethodName)), (Jvm.Cond.instanceMethod ({ cls := "OffsetBookModel", name := "reaches", desc := "(II)I" } : Jvm.MethodName)), (Jvm.Cond.code ({ cls := "OffsetBookModel", name := "reaches", desc := "(II)I" } : Jvm.MethodName) prog_10_method_37_code (7 : Nat) (Option.some Jvm.ClassFile.FieldType.int)), (Jvm.Cond.methodLink "OffsetBookModel" (213 : Nat) ({ cls := "OffsetBookModel", name := "sizeOf", desc := "(I)I" } : Jvm.MethodName)), (Jvm.Cond.instanceMethod ({ cls := "OffsetBookModel", name := "sizeOf", desc := "(I)I" } : Jvm.MethodName)), (Jvm.Cond.code ({ cls := "OffsetBookModel", name := "sizeOf", desc := "(I)I" } : Jvm.MethodName) prog_10_method_38_code (4 : Nat) (Option.some Jvm.ClassFile.FieldType.int)), (Jvm.Cond.methodLink "OffsetBookLaw" (53 : Nat) ({ cls := "OffsetBookModel", name := "amount", desc := "(I)J" } : Jvm.MethodName)), (Jvm.Cond.instanceMethod ({ cls := "OffsetBookModel", name := "amount", desc := "(I)J" } : Jvm.MethodName)), (Jvm.Cond.selects "OffsetBookModel" ({ cls := "OffsetBookModel", name := "amount", desc := "(I)J" } : Jvm.MethodName) ({ cls := "OffsetBookModel", name := "amount", desc := "(I)J" } : Jvm.MethodName)), (Jvm.Cond.code ({ cls := "OffsetBookModel", name := "amount", desc := "(I)J" } : Jvm.MethodName) prog_10_method_41_code (2 : Nat) (Option.some Jvm.ClassFile.FieldType.long)), (Jvm.Cond.constantLong "OffsetBookModel" (221 : Nat) (-9223372036854775808 : Int64)), (Jvm.Cond.methodLink "OffsetBookLaw" (57 : Nat) ({ cls := "OffsetBookModel", name := "gauge", desc := "()I" } : Jvm.MethodName)), (Jvm.Cond.instanceMethod ({ cls := "OffsetBookModel", name := "gauge", desc := "()I" } : Jvm.MethodName)), (Jvm.Cond.selects "OffsetBookModel" ({ cls := "OffsetBookModel", name := "gauge", desc := "()I" } : Jvm.MethodName) ({ cls := "OffsetBookModel", name := "gauge", desc := "()I" } : Jvm.MethodName)), (Jvm.Cond.code ({ cls := "OffsetBookModel", name := "gauge", desc := "()I" } : Jvm.MethodName) prog_10_method_42_code (3 : Nat) (Option.some Jvm.ClassFile.FieldType.int)), (Jvm.Cond.methodLink "OffsetBookLaw" (61 : Nat) ({ cls := "OffsetBookModel", name := "letter", desc := "(II)I" } : Jvm.MethodName)), (Jvm.Cond.instanceMethod ({ cls := "OffsetBookModel", name := "letter", desc := "(II)I" } : Jvm.MethodName)), (Jvm.Cond.selects "OffsetBookModel" ({ cls := "OffsetBookModel", name := "letter", desc := "(II)I" } : Jvm.MethodName) ({ cls := "OffsetBookModel", name := "letter", desc := "(II)I" } : Jvm.MethodName)), (Jvm.Cond.code ({ cls := "OffsetBookModel", name := "letter", desc := "(II)I" } : Jvm.MethodName) prog_10_method_44_code (4 : Nat) (Option.some Jvm.ClassFile.FieldType.int)), (Jvm.Cond.methodLink "OffsetBookModel" (223 : Nat) ({ cls := "OffsetBookModel", name := "isGauge", desc := "(I)Z" } : Jvm.MethodName)), (Jvm.Cond.instanceMethod ({ cls := "OffsetBookModel", name := "isGauge", desc := "(I)Z" } : Jvm.MethodName)), (Jvm.Cond.code ({ cls := "OffsetBookModel", name := "isGauge", desc := "(I)Z" } : Jvm.MethodName) prog_10_method_43_code (2 : Nat) (Option.some Jvm.ClassFile.FieldType.boolean)), (Jvm.Cond.methodLink "OffsetBookLaw" (66 : Nat) ({ cls := "OffsetBookModel", name := "difference", desc := "(II)J" } : Jvm.MethodName)), (Jvm.Cond.instanceMethod ({ cls := "OffsetBookModel", name := "difference", desc := "(II)J" } : Jvm.MethodName)), (Jvm.Cond.selects "OffsetBookModel" ({ cls := "OffsetBookModel", name := "difference", desc := "(II)J" } : Jvm.MethodName) ({ cls := "OffsetBookModel", name := "difference", desc := "(II)J" } : Jvm.MethodName)), (Jvm.Cond.code ({ cls := "OffsetBookModel", name := "difference", desc := "(II)J" } : Jvm.MethodName) prog_10_method_45_code (3 : Nat) (Option.some Jvm.ClassFile.FieldType.long)), (Jvm.Cond.methodLink "OffsetBookLaw" (70 : Nat) ({ cls := "OffsetBookModel", name := "offset", desc := "(I)J" } : Jvm.MethodName)), (Jvm.Cond.instanceMethod ({ cls := "OffsetBookModel", name := "offset", desc := "(I)J" } : Jvm.MethodName)), (Jvm.Cond.selects "OffsetBookModel" ({ cls := "OffsetBookModel", name := "offset", desc := "(I)J" } : Jvm.MethodName) ({ cls := "OffsetBookModel", name := "offset", desc := "(I)J" } : Jvm.MethodName)), (Jvm.Cond.code ({ cls := "OffsetBookModel", name := "offset", desc := "(I)J" } : Jvm.MethodName) prog_10_method_46_code (2 : Nat) (Option.some Jvm.ClassFile.FieldType.long)), (Jvm.Cond.methodLink "OffsetBookLaw" (74 : Nat) ({ cls := "OffsetBookModel", name := "group", desc := "(II)I" } : Jvm.MethodName)), (Jvm.Cond.instanceMethod ({ cls := "OffsetBookModel", name := "group", desc := "(II)I" } : Jvm.MethodName)), (Jvm.Cond.selects "OffsetBookModel" ({ cls := "OffsetBookModel", name := "group", desc := "(II)I" } : Jvm.MethodName) ({ cls := "OffsetBookModel", name := "group", desc := "(II)I" } : Jvm.MethodName)), (Jvm.Cond.code ({ cls := "OffsetBookModel", name := "group", desc := "(II)I" } : Jvm.MethodName) prog_10_method_47_code (3 : Nat) (Option.some Jvm.ClassFile.FieldType.int)), (Jvm.Cond.methodLink "OffsetBookLaw" (78 : Nat) ({ cls := "OffsetBookModel", name := "order", desc := "(II)I" } : Jvm.MethodName)), (Jvm.Cond.instanceMethod ({ cls := "OffsetBookModel", name := "order", desc := "(II)I" } : Jvm.MethodName)), (Jvm.Cond.selects "OffsetBookModel" ({ cls := "OffsetBookModel", name := "order", desc := "(II)I" } : Jvm.MethodName) ({ cls := "OffsetBookModel", name := "order", desc := "(II)I" } : Jvm.MethodName)), (Jvm.Cond.code ({ cls := "OffsetBookModel", name := "order", desc := "(II)I" } : Jvm.MethodName) prog_10_method_50_code (3 : Nat) (Option.some Jvm.ClassFile.FieldType.int)), (Jvm.Cond.methodLink "OffsetBookModel" (229 : Nat) ({ cls := "OffsetBookModel", name := "laysOrder", desc := "(I)I" } : Jvm.MethodName)), (Jvm.Cond.instanceMethod ({ cls := "OffsetBookModel", name := "laysOrder", desc := "(I)I" } : Jvm.MethodName)), (Jvm.Cond.code ({ cls := "OffsetBookModel", name := "laysOrder", desc := "(I)I" } : Jvm.MethodName) prog_10_method_49_code (5 : Nat) (Option.some Jvm.ClassFile.FieldType.int)), (Jvm.Cond.methodLink "OffsetBookModel" (226 : Nat) ({ cls := "OffsetBookModel", name := "isAhead", desc := "(II)Z" } : Jvm.MethodName)), (Jvm.Cond.instanceMethod ({ cls := "OffsetBookModel", name := "isAhead", desc := "(II)Z" } : Jvm.MethodName)), (Jvm.Cond.code ({ cls := "OffsetBookModel", name := "isAhead", desc := "(II)Z" } : Jvm.MethodName) prog_10_method_48_code (3 : Nat) (Option.some Jvm.ClassFile.FieldType.boolean)), (Jvm.Cond.methodLink "OffsetBookLaw" (82 : Nat) ({ cls := "OffsetBookModel", name := "span", desc := "(I)J" } : Jvm.MethodName)), (Jvm.Cond.instanceMethod ({ cls := "OffsetBookModel", name := "span", desc := "(I)J" } : Jvm.MethodName)), (Jvm.Cond.selects "OffsetBookModel" ({ cls := "OffsetBookModel", name := "span", desc := "(I)J" } : Jvm.MethodName) ({ cls := "OffsetBookModel", name := "span", desc := "(I)J" } : Jvm.MethodName))]
def ia_Ts_14 : List Cond := [(Jvm.Cond.code ({ cls := "OffsetBookModel", name := "span", desc := "(I)J" } : Jvm.MethodName) prog_10_method_51_code (3 : Nat) (Option.some Jvm.ClassFile.FieldType.long)), (Jvm.Cond.methodLink "OffsetBookLaw" (86 : Nat) ({ cls := "OffsetBookModel", name := "mean", desc := "(I)J" } : Jvm.MethodName)), (Jvm.Cond.instanceMethod ({ cls := "OffsetBookModel", name := "mean", desc := "(I)J" } : Jvm.MethodName)), (Jvm.Cond.selects "OffsetBookModel" ({ cls := "OffsetBookModel", name := "mean", desc := "(I)J" } : Jvm.MethodName) ({ cls := "OffsetBookModel", name := "mean", desc := "(I)J" } : Jvm.MethodName)), (Jvm.Cond.code ({ cls := "OffsetBookModel", name := "mean", desc := "(I)J" } : Jvm.MethodName) prog_10_method_52_code (5 : Nat) (Option.some Jvm.ClassFile.FieldType.long)), (Jvm.Cond.methodLink "OffsetBookModel" (232 : Nat) ({ cls := "java/lang/Double", name := "doubleToLongBits", desc := "(D)J" } : Jvm.MethodName)), (Jvm.Cond.static ({ cls := "java/lang/Double", name := "doubleToLongBits", desc := "(D)J" } : Jvm.MethodName)), (Jvm.Cond.code ({ cls := "java/lang/Double", name := "doubleToLongBits", desc := "(D)J" } : Jvm.MethodName) prog_11_method_23_code (2 : Nat) (Option.some Jvm.ClassFile.FieldType.long)), (Jvm.Cond.methodLink "java/lang/Double" (122 : Nat) ({ cls := "java/lang/Double", name := "isNaN", desc := "(D)Z" } : Jvm.MethodName)), (Jvm.Cond.static ({ cls := "java/lang/Double", name := "isNaN", desc := "(D)Z" } : Jvm.MethodName)), (Jvm.Cond.code ({ cls := "java/lang/Double", name := "isNaN", desc := "(D)Z" } : Jvm.MethodName) prog_11_method_6_code (2 : Nat) (Option.some Jvm.ClassFile.FieldType.boolean)), (Jvm.Cond.methodLink "java/lang/Double" (134 : Nat) ({ cls := "java/lang/Double", name := "doubleToRawLongBits", desc := "(D)J" } : Jvm.MethodName)), (Jvm.Cond.static ({ cls := "java/lang/Double", name := "doubleToRawLongBits", desc := "(D)J" } : Jvm.MethodName)), (Jvm.Cond.native ({ cls := "java/lang/Double", name := "doubleToRawLongBits", desc := "(D)J" } : Jvm.MethodName)), (Jvm.Cond.constantLong "java/lang/Double" (137 : Nat) (9221120237041090560 : Int64)), (Jvm.Cond.methodLink "OffsetBookLaw" (93 : Nat) ({ cls := "OffsetBookModel", name := "twos", desc := "(J)I" } : Jvm.MethodName)), (Jvm.Cond.instanceMethod ({ cls := "OffsetBookModel", name := "twos", desc := "(J)I" } : Jvm.MethodName)), (Jvm.Cond.selects "OffsetBookModel" ({ cls := "OffsetBookModel", name := "twos", desc := "(J)I" } : Jvm.MethodName) ({ cls := "OffsetBookModel", name := "twos", desc := "(J)I" } : Jvm.MethodName)), (Jvm.Cond.code ({ cls := "OffsetBookModel", name := "twos", desc := "(J)I" } : Jvm.MethodName) prog_10_method_53_code (8 : Nat) (Option.some Jvm.ClassFile.FieldType.int)), (Jvm.Cond.methodLink "OffsetBookLaw" (98 : Nat) ({ cls := "OffsetBookModel", name := "chain", desc := "(III)I" } : Jvm.MethodName)), (Jvm.Cond.instanceMethod ({ cls := "OffsetBookModel", name := "chain", desc := "(III)I" } : Jvm.MethodName)), (Jvm.Cond.selects "OffsetBookModel" ({ cls := "OffsetBookModel", name := "chain", desc := "(III)I" } : Jvm.MethodName) ({ cls := "OffsetBookModel", name := "chain", desc := "(III)I" } : Jvm.MethodName)), (Jvm.Cond.code ({ cls := "OffsetBookModel", name := "chain", desc := "(III)I" } : Jvm.MethodName) prog_10_method_57_code (5 : Nat) (Option.some Jvm.ClassFile.FieldType.int)), (Jvm.Cond.methodLink "OffsetBookModel" (244 : Nat) ({ cls := "OffsetBookModel", name := "laysChain", desc := "(II)I" } : Jvm.MethodName)), (Jvm.Cond.instanceMethod ({ cls := "OffsetBookModel", name := "laysChain", desc := "(II)I" } : Jvm.MethodName)), (Jvm.Cond.code ({ cls := "OffsetBookModel", name := "laysChain", desc := "(II)I" } : Jvm.MethodName) prog_10_method_55_code (6 : Nat) (Option.some Jvm.ClassFile.FieldType.int)), (Jvm.Cond.methodLink "OffsetBookModel" (238 : Nat) ({ cls := "OffsetBookModel", name := "laysFar", desc := "(I)V" } : Jvm.MethodName)), (Jvm.Cond.instanceMethod ({ cls := "OffsetBookModel", name := "laysFar", desc := "(I)V" } : Jvm.MethodName)), (Jvm.Cond.code ({ cls := "OffsetBookModel", name := "laysFar", desc := "(I)V" } : Jvm.MethodName) prog_10_method_54_code (6 : Nat) (Option.none : Option Jvm.ClassFile.FieldType)), (Jvm.Cond.methodLink "OffsetBookModel" (241 : Nat) ({ cls := "OffsetBookModel", name := "isStep", desc := "(II)Z" } : Jvm.MethodName)), (Jvm.Cond.instanceMethod ({ cls := "OffsetBookModel", name := "isStep", desc := "(II)Z" } : Jvm.MethodName)), (Jvm.Cond.code ({ cls := "OffsetBookModel", name := "isStep", desc := "(II)Z" } : Jvm.MethodName) prog_10_method_56_code (3 : Nat) (Option.some Jvm.ClassFile.FieldType.boolean)), (Jvm.Cond.methodLink "OffsetBookLaw" (106 : Nat) ({ cls := "OffsetBookModel", name := "blame", desc := "(I)I" } : Jvm.MethodName)), (Jvm.Cond.instanceMethod ({ cls := "OffsetBookModel", name := "blame", desc := "(I)I" } : Jvm.MethodName)), (Jvm.Cond.selects "OffsetBookModel" ({ cls := "OffsetBookModel", name := "blame", desc := "(I)I" } : Jvm.MethodName) ({ cls := "OffsetBookModel", name := "blame", desc := "(I)I" } : Jvm.MethodName)), (Jvm.Cond.code ({ cls := "OffsetBookModel", name := "blame", desc := "(I)I" } : Jvm.MethodName) prog_10_method_58_code (5 : Nat) (Option.some Jvm.ClassFile.FieldType.int)), (Jvm.Cond.methodLink "OffsetBookLaw" (102 : Nat) ({ cls := "OffsetBookModel", name := "cut", desc := "(II)I" } : Jvm.MethodName)), (Jvm.Cond.instanceMethod ({ cls := "OffsetBookModel", name := "cut", desc := "(II)I" } : Jvm.MethodName)), (Jvm.Cond.selects "OffsetBookModel" ({ cls := "OffsetBookModel", name := "cut", desc := "(II)I" } : Jvm.MethodName) ({ cls := "OffsetBookModel", name := "cut", desc := "(II)I" } : Jvm.MethodName)), (Jvm.Cond.code ({ cls := "OffsetBookModel", name := "cut", desc := "(II)I" } : Jvm.MethodName) prog_10_method_63_code (5 : Nat) (Option.some Jvm.ClassFile.FieldType.int)), (Jvm.Cond.methodLink "OffsetBookModel" (250 : Nat) ({ cls := "OffsetBookModel", name := "spreads", desc := "(I)V" } : Jvm.MethodName)), (Jvm.Cond.instanceMethod ({ cls := "OffsetBookModel", name := "spreads", desc := "(I)V" } : Jvm.MethodName)), (Jvm.Cond.code ({ cls := "OffsetBookModel", name := "spreads", desc := "(I)V" } : Jvm.MethodName) prog_10_method_60_code (6 : Nat) (Option.none : Option Jvm.ClassFile.FieldType)), (Jvm.Cond.methodLink "OffsetBookModel" (247 : Nat) ({ cls := "OffsetBookModel", name := "canGo", desc := "(II)Z" } : Jvm.MethodName)), (Jvm.Cond.instanceMethod ({ cls := "OffsetBookModel", name := "canGo", desc := "(II)Z" } : Jvm.MethodName)), (Jvm.Cond.code ({ cls := "OffsetBookModel", name := "canGo", desc := "(II)Z" } : Jvm.MethodName) prog_10_method_59_code (3 : Nat) (Option.some Jvm.ClassFile.FieldType.boolean)), (Jvm.Cond.methodLink "OffsetBookModel" (253 : Nat) ({ cls := "OffsetBookModel", name := "laysPath", desc := "(II)V" } : Jvm.MethodName)), (Jvm.Cond.instanceMethod ({ cls := "OffsetBookModel", name := "laysPath", desc := "(II)V" } : Jvm.MethodName)), (Jvm.Cond.code ({ cls := "OffsetBookModel", name := "laysPath", desc := "(II)V" } : Jvm.MethodName) prog_10_method_61_code (5 : Nat) (Option.none : Option Jvm.ClassFile.FieldType)), (Jvm.Cond.methodLink "OffsetBookModel" (257 : Nat) ({ cls := "OffsetBookModel", name := "isCut", desc := "(I)Z" } : Jvm.MethodName)), (Jvm.Cond.instanceMethod ({ cls := "OffsetBookModel", name := "isCut", desc := "(I)Z" } : Jvm.MethodName)), (Jvm.Cond.code ({ cls := "OffsetBookModel", name := "isCut", desc := "(I)Z" } : Jvm.MethodName) prog_10_method_62_code (2 : Nat) (Option.some Jvm.ClassFile.FieldType.boolean)), (Jvm.Cond.methodLink "OffsetBookLaw" (110 : Nat) ({ cls := "OffsetBookModel", name := "pin", desc := "(III)I" } : Jvm.MethodName)), (Jvm.Cond.instanceMethod ({ cls := "OffsetBookModel", name := "pin", desc := "(III)I" } : Jvm.MethodName)), (Jvm.Cond.selects "OffsetBookModel" ({ cls := "OffsetBookModel", name := "pin", desc := "(III)I" } : Jvm.MethodName) ({ cls := "OffsetBookModel", name := "pin", desc := "(III)I" } : Jvm.MethodName)), (Jvm.Cond.code ({ cls := "OffsetBookModel", name := "pin", desc := "(III)I" } : Jvm.MethodName) prog_10_method_64_code (5 : Nat) (Option.some Jvm.ClassFile.FieldType.int)), (Jvm.Cond.constantLong "OffsetBookModel" (260 : Nat) (3 : Int64)), (Jvm.Cond.methodLink "OffsetBookLaw" (114 : Nat) ({ cls := "OffsetBookModel", name := "pinned", desc := "(II)I" } : Jvm.MethodName)), (Jvm.Cond.instanceMethod ({ cls := "OffsetBookModel", name := "pinned", desc := "(II)I" } : Jvm.MethodName)), (Jvm.Cond.selects "OffsetBookModel" ({ cls := "OffsetBookModel", name := "pinned", desc := "(II)I" } : Jvm.MethodName) ({ cls := "OffsetBookModel", name := "pinned", desc := "(II)I" } : Jvm.MethodName))]
def ia_Ts_15 : List Cond := [(Jvm.Cond.code ({ cls := "OffsetBookModel", name := "pinned", desc := "(II)I" } : Jvm.MethodName) prog_10_method_65_code (3 : Nat) (Option.some Jvm.ClassFile.FieldType.int)), (Jvm.Cond.methodLink "OffsetBookLaw" (126 : Nat) ({ cls := "OffsetBookModel", name := "count", desc := "(I)I" } : Jvm.MethodName)), (Jvm.Cond.instanceMethod ({ cls := "OffsetBookModel", name := "count", desc := "(I)I" } : Jvm.MethodName)), (Jvm.Cond.selects "OffsetBookModel" ({ cls := "OffsetBookModel", name := "count", desc := "(I)I" } : Jvm.MethodName) ({ cls := "OffsetBookModel", name := "count", desc := "(I)I" } : Jvm.MethodName)), (Jvm.Cond.code ({ cls := "OffsetBookModel", name := "count", desc := "(I)I" } : Jvm.MethodName) prog_10_method_69_code (2 : Nat) (Option.some Jvm.ClassFile.FieldType.int)), (Jvm.Cond.methodLink "OffsetBookModel" (262 : Nat) ({ cls := "OffsetBookModel", name := "groups", desc := "()I" } : Jvm.MethodName)), (Jvm.Cond.instanceMethod ({ cls := "OffsetBookModel", name := "groups", desc := "()I" } : Jvm.MethodName)), (Jvm.Cond.code ({ cls := "OffsetBookModel", name := "groups", desc := "()I" } : Jvm.MethodName) prog_10_method_66_code (3 : Nat) (Option.some Jvm.ClassFile.FieldType.int)), (Jvm.Cond.methodLink "OffsetBookModel" (265 : Nat) ({ cls := "OffsetBookModel", name := "knownTwos", desc := "()I" } : Jvm.MethodName)), (Jvm.Cond.instanceMethod ({ cls := "OffsetBookModel", name := "knownTwos", desc := "()I" } : Jvm.MethodName)), (Jvm.Cond.code ({ cls := "OffsetBookModel", name := "knownTwos", desc := "()I" } : Jvm.MethodName) prog_10_method_67_code (4 : Nat) (Option.some Jvm.ClassFile.FieldType.int)), (Jvm.Cond.methodLink "OffsetBookModel" (268 : Nat) ({ cls := "OffsetBookModel", name := "hanging", desc := "()I" } : Jvm.MethodName)), (Jvm.Cond.instanceMethod ({ cls := "OffsetBookModel", name := "hanging", desc := "()I" } : Jvm.MethodName)), (Jvm.Cond.code ({ cls := "OffsetBookModel", name := "hanging", desc := "()I" } : Jvm.MethodName) prog_10_method_68_code (3 : Nat) (Option.some Jvm.ClassFile.FieldType.int)), (Jvm.Cond.constantLong "OffsetBookLaw" (87 : Nat) (4294967295 : Int64))]
def ia_Ts : List Cond := ia_Ts_0 ++ (ia_Ts_1 ++ (ia_Ts_2 ++ (ia_Ts_3 ++ (ia_Ts_4 ++ (ia_Ts_5 ++ (ia_Ts_6 ++ (ia_Ts_7 ++ (ia_Ts_8 ++ (ia_Ts_9 ++ (ia_Ts_10 ++ (ia_Ts_11 ++ (ia_Ts_12 ++ (ia_Ts_13 ++ (ia_Ts_14 ++ (ia_Ts_15)))))))))))))))
set_option maxRecDepth 20000 in
theorem ia_Tp_0 : ia_Ts_0 = ([0, 1, 2, 3, 4, 5, 6, 7, 8, 9, 10, 11, 12, 13, 14, 15, 16, 17, 18, 19, 20, 21, 22, 23, 24, 25, 26, 27, 28, 29, 30, 31, 32, 33, 34, 35, 36, 37, 38, 39, 40, 41, 42, 43, 44, 45, 46, 47, 48, 49, 50, 51, 52, 53, 54, 55, 56, 57, 58, 59] : List Nat).filterMap (fun i => lw_tbl[i]?) := by decide +kernel
theorem ia_Ti_0 : ∀ w ∈ ia_Ts_0, w ∈ lw_tbl := fun w h => by
  rw [ia_Tp_0] at h
  obtain ⟨i, -, hi⟩ := List.mem_filterMap.mp h
  exact List.mem_of_getElem? hi
set_option maxRecDepth 20000 in
theorem ia_Tp_1 : ia_Ts_1 = ([60, 61, 62, 63, 64, 65, 66, 67, 68, 69, 70, 71, 72, 73, 74, 75, 76, 77, 78, 79, 80, 81, 82, 83, 84, 85, 86, 89, 90, 91, 92, 93, 94, 98, 99, 100, 104, 105, 106, 107, 109, 111, 113, 115, 117, 121, 123, 125, 127, 128, 130, 132, 134, 140, 141, 142, 143, 145, 147, 151] : List Nat).filterMap (fun i => lw_tbl[i]?) := by decide +kernel
theorem ia_Ti_1 : ∀ w ∈ ia_Ts_1, w ∈ lw_tbl := fun w h => by
  rw [ia_Tp_1] at h
  obtain ⟨i, -, hi⟩ := List.mem_filterMap.mp h
  exact List.mem_of_getElem? hi
set_option maxRecDepth 20000 in
theorem ia_Tp_2 : ia_Ts_2 = ([155, 158, 162, 166, 172, 174, 176, 178, 180, 182, 184, 186, 194, 195, 196, 197, 198, 201, 203, 205, 207, 209, 214, 215, 216, 217, 218, 219, 220, 221, 222, 223, 224, 225, 227, 229, 230, 231, 232, 233, 234, 235, 236, 237, 239, 241, 243, 245, 247, 249, 251, 253, 255, 257, 259, 261, 263, 269, 270, 271] : List Nat).filterMap (fun i => lw_tbl[i]?) := by decide +kernel
theorem ia_Ti_2 : ∀ w ∈ ia_Ts_2, w ∈ lw_tbl := fun w h => by
  rw [ia_Tp_2] at h
  obtain ⟨i, -, hi⟩ := List.mem_filterMap.mp h
  exact List.mem_of_getElem? hi
set_option maxRecDepth 20000 in
theorem ia_Tp_3 : ia_Ts_3 = ([272, 273, 274, 275, 276, 278, 280, 282, 284, 286, 291, 292, 293, 294, 295, 296, 297, 298, 300, 304, 305, 306, 307, 308, 309, 310, 311, 312, 314, 316, 318, 320, 322, 324, 326, 329, 330, 331, 332, 333, 334, 335, 336, 337, 338, 339, 340, 341, 342, 343, 344, 345, 346, 347, 348, 349, 351, 352, 353, 355] : List Nat).filterMap (fun i => lw_tbl[i]?) := by decide +kernel
theorem ia_Ti_3 : ∀ w ∈ ia_Ts_3, w ∈ lw_tbl := fun w h => by
  rw [ia_Tp_3] at h
  obtain ⟨i, -, hi⟩ := List.mem_filterMap.mp h
  exact List.mem_of_getElem? hi
set_option maxRecDepth 20000 in
theorem ia_Tp_4 : ia_Ts_4 = ([356, 357, 358, 359, 360, 361, 363, 364, 365, 366, 367, 368, 369, 370, 371, 372, 373, 375, 376, 377, 378, 379, 380, 381, 383, 384, 385, 386, 387, 388, 389, 390, 391, 392, 394, 395, 396, 398, 399, 400, 401, 402, 403, 404, 406, 407, 408, 409, 411, 412, 413, 415, 416, 417, 418, 419, 420, 421, 422, 423] : List Nat).filterMap (fun i => lw_tbl[i]?) := by decide +kernel
theorem ia_Ti_4 : ∀ w ∈ ia_Ts_4, w ∈ lw_tbl := fun w h => by
  rw [ia_Tp_4] at h
  obtain ⟨i, -, hi⟩ := List.mem_filterMap.mp h
  exact List.mem_of_getElem? hi
set_option maxRecDepth 20000 in
theorem ia_Tp_5 : ia_Ts_5 = ([424, 425, 426, 427, 428, 429, 430, 431, 432, 433, 434, 435, 436, 437, 439, 440, 441, 442, 443, 444, 445, 446, 447, 448, 449, 450, 451, 452, 453, 454, 455, 456, 457, 458, 459, 460, 461, 462, 463, 464, 466, 467, 468, 470, 471, 472, 473, 474, 475, 476, 478, 479, 480, 481, 482, 483, 484, 485, 486, 487] : List Nat).filterMap (fun i => lw_tbl[i]?) := by decide +kernel
theorem ia_Ti_5 : ∀ w ∈ ia_Ts_5, w ∈ lw_tbl := fun w h => by
  rw [ia_Tp_5] at h
  obtain ⟨i, -, hi⟩ := List.mem_filterMap.mp h
  exact List.mem_of_getElem? hi
set_option maxRecDepth 20000 in
theorem ia_Tp_6 : ia_Ts_6 = ([488, 489, 490, 491, 492, 493, 495, 496, 497, 499, 500, 501, 502, 503, 504, 505, 506, 507, 508, 509, 510, 511, 512, 513, 514, 515, 516, 517, 518, 519, 520, 521, 523, 524, 525, 527, 528, 529, 530, 531, 532, 533, 535, 536, 537, 539, 540, 541, 543, 544, 545, 547, 548, 549, 551, 552, 553, 555, 556, 557] : List Nat).filterMap (fun i => lw_tbl[i]?) := by decide +kernel
theorem ia_Ti_6 : ∀ w ∈ ia_Ts_6, w ∈ lw_tbl := fun w h => by
  rw [ia_Tp_6] at h
  obtain ⟨i, -, hi⟩ := List.mem_filterMap.mp h
  exact List.mem_of_getElem? hi
set_option maxRecDepth 20000 in
theorem ia_Tp_7 : ia_Ts_7 = ([559, 560, 561, 563, 564, 565, 567, 568, 569, 571, 572, 573, 574, 575, 576, 577, 578, 579, 580, 581, 582, 583, 584, 585, 586, 587, 588, 589, 590, 591, 593, 594, 595, 596, 597, 598, 599, 600, 601, 602, 603, 604, 605, 606, 607, 608, 609, 610, 611, 612, 613, 614, 615, 616, 617, 618, 619, 620, 621, 622] : List Nat).filterMap (fun i => lw_tbl[i]?) := by decide +kernel
theorem ia_Ti_7 : ∀ w ∈ ia_Ts_7, w ∈ lw_tbl := fun w h => by
  rw [ia_Tp_7] at h
  obtain ⟨i, -, hi⟩ := List.mem_filterMap.mp h
  exact List.mem_of_getElem? hi
set_option maxRecDepth 20000 in
theorem ia_Tp_8 : ia_Ts_8 = ([623, 624, 625, 626, 627, 628, 629, 630, 631, 632, 633, 634, 635, 636, 637, 638, 639, 640, 641, 642, 643, 644, 645, 646, 647, 648, 649, 650, 651, 652, 653, 654, 655, 656, 657, 658, 659, 660, 662, 663, 664, 665, 666, 667, 668, 669, 670, 671, 672, 674, 675, 676, 678, 679, 680, 681, 682, 683, 684, 685] : List Nat).filterMap (fun i => lw_tbl[i]?) := by decide +kernel
theorem ia_Ti_8 : ∀ w ∈ ia_Ts_8, w ∈ lw_tbl := fun w h => by
  rw [ia_Tp_8] at h
  obtain ⟨i, -, hi⟩ := List.mem_filterMap.mp h
  exact List.mem_of_getElem? hi
set_option maxRecDepth 20000 in
theorem ia_Tp_9 : ia_Ts_9 = ([686, 687, 688, 689, 690, 691, 692, 693, 694, 695, 696, 697, 698, 699, 700, 701, 702, 703, 704, 705, 706, 707, 708, 709, 710, 711, 712, 713, 714, 715, 716, 717, 718, 719, 720, 721, 722, 723, 724, 725, 726, 727, 728, 729, 730, 731, 732, 733, 734, 735, 736, 737, 738, 739, 740, 741, 743, 744, 747, 748] : List Nat).filterMap (fun i => lw_tbl[i]?) := by decide +kernel
theorem ia_Ti_9 : ∀ w ∈ ia_Ts_9, w ∈ lw_tbl := fun w h => by
  rw [ia_Tp_9] at h
  obtain ⟨i, -, hi⟩ := List.mem_filterMap.mp h
  exact List.mem_of_getElem? hi
set_option maxRecDepth 20000 in
theorem ia_Tp_10 : ia_Ts_10 = ([749, 750, 751, 753, 754, 755, 757, 758, 759, 760, 762, 763, 764, 765, 766, 767, 768, 769, 770, 771, 772, 773, 774, 775, 776, 777, 778, 779, 780, 781, 782, 783, 784, 785, 786, 787, 788, 789, 790, 791, 792, 793, 794, 795, 796, 797, 799, 801, 803, 805, 807, 809, 811, 813, 815, 817, 819, 821, 823, 825] : List Nat).filterMap (fun i => lw_tbl[i]?) := by decide +kernel
theorem ia_Ti_10 : ∀ w ∈ ia_Ts_10, w ∈ lw_tbl := fun w h => by
  rw [ia_Tp_10] at h
  obtain ⟨i, -, hi⟩ := List.mem_filterMap.mp h
  exact List.mem_of_getElem? hi
set_option maxRecDepth 20000 in
theorem ia_Tp_11 : ia_Ts_11 = ([827, 829, 831, 833, 835, 837, 839, 841, 843, 845, 847, 849, 851, 853, 855, 857, 859, 861, 864, 865, 866, 867, 868, 869, 870, 871, 872, 873, 874, 875, 876, 877, 878, 879, 881, 882, 883, 885, 886, 887, 889, 890, 891, 893, 894, 895, 896, 897, 898, 900, 901, 902, 904, 905, 906, 908, 909, 910, 912, 913] : List Nat).filterMap (fun i => lw_tbl[i]?) := by decide +kernel
theorem ia_Ti_11 : ∀ w ∈ ia_Ts_11, w ∈ lw_tbl := fun w h => by
  rw [ia_Tp_11] at h
  obtain ⟨i, -, hi⟩ := List.mem_filterMap.mp h
  exact List.mem_of_getElem? hi
set_option maxRecDepth 20000 in
theorem ia_Tp_12 : ia_Ts_12 = ([914, 916, 917, 918, 920, 921, 922, 924, 925, 926, 927, 928, 929, 930, 931, 933, 934, 935, 937, 938, 939, 941, 942, 943, 944, 945, 946, 947, 948, 949, 950, 951, 953, 954, 955, 957, 958, 959, 961, 962, 963, 965, 966, 967, 968, 969, 970, 971, 972, 973, 974, 975, 977, 978, 979, 980, 981, 982, 983, 984] : List Nat).filterMap (fun i => lw_tbl[i]?) := by decide +kernel
theorem ia_Ti_12 : ∀ w ∈ ia_Ts_12, w ∈ lw_tbl := fun w h => by
  rw [ia_Tp_12] at h
  obtain ⟨i, -, hi⟩ := List.mem_filterMap.mp h
  exact List.mem_of_getElem? hi
set_option maxRecDepth 20000 in
theorem ia_Tp_13 : ia_Ts_13 = ([985, 986, 987, 988, 989, 990, 991, 992, 994, 995, 996, 998, 999, 1000, 1002, 1003, 1004, 1006, 1007, 1008, 1009, 1010, 1011, 1012, 1013, 1014, 1015, 1016, 1017, 1018, 1019, 1020, 1021, 1023, 1024, 1025, 1026, 1027, 1028, 1029, 1030, 1031, 1032, 1033, 1034, 1035, 1036, 1037, 1038, 1039, 1040, 1041, 1043, 1044, 1045, 1047, 1048, 1049, 1050, 1051] : List Nat).filterMap (fun i => lw_tbl[i]?) := by decide +kernel
theorem ia_Ti_13 : ∀ w ∈ ia_Ts_13, w ∈ lw_tbl := fun w h => by
  rw [ia_Tp_13] at h
  obtain ⟨i, -, hi⟩ := List.mem_filterMap.mp h
  exact List.mem_of_getElem? hi
set_option maxRecDepth 20000 in
theorem ia_Tp_14 : ia_Ts_14 = ([1052, 1053, 1054, 1055, 1056, 1057, 1058, 1059, 1060, 1061, 1062, 1063, 1064, 1065, 1066, 1067, 1068, 1069, 1070, 1071, 1072, 1073, 1074, 1075, 1077, 1078, 1079, 1081, 1082, 1083, 1085, 1086, 1087, 1088, 1089, 1090, 1091, 1092, 1093, 1094, 1095, 1097, 1098, 1099, 1101, 1102, 1103, 1105, 1106, 1107, 1109, 1110, 1111, 1112, 1113, 1114, 1115, 1116, 1117, 1118] : List Nat).filterMap (fun i => lw_tbl[i]?) := by decide +kernel
theorem ia_Ti_14 : ∀ w ∈ ia_Ts_14, w ∈ lw_tbl := fun w h => by
  rw [ia_Tp_14] at h
  obtain ⟨i, -, hi⟩ := List.mem_filterMap.mp h
  exact List.mem_of_getElem? hi
set_option maxRecDepth 20000 in
theorem ia_Tp_15 : ia_Ts_15 = ([1119, 1120, 1121, 1122, 1123, 1124, 1126, 1127, 1128, 1130, 1131, 1132, 1134, 1135, 1136] : List Nat).filterMap (fun i => lw_tbl[i]?) := by decide +kernel
theorem ia_Ti_15 : ∀ w ∈ ia_Ts_15, w ∈ lw_tbl := fun w h => by
  rw [ia_Tp_15] at h
  obtain ⟨i, -, hi⟩ := List.mem_filterMap.mp h
  exact List.mem_of_getElem? hi
theorem ia_Ts_in : ∀ w ∈ ia_Ts, w ∈ lw_tbl := by
  unfold ia_Ts
  exact List.forall_mem_append.mpr ⟨ia_Ti_0, List.forall_mem_append.mpr ⟨ia_Ti_1, List.forall_mem_append.mpr ⟨ia_Ti_2, List.forall_mem_append.mpr ⟨ia_Ti_3, List.forall_mem_append.mpr ⟨ia_Ti_4, List.forall_mem_append.mpr ⟨ia_Ti_5, List.forall_mem_append.mpr ⟨ia_Ti_6, List.forall_mem_append.mpr ⟨ia_Ti_7, List.forall_mem_append.mpr ⟨ia_Ti_8, List.forall_mem_append.mpr ⟨ia_Ti_9, List.forall_mem_append.mpr ⟨ia_Ti_10, List.forall_mem_append.mpr ⟨ia_Ti_11, List.forall_mem_append.mpr ⟨ia_Ti_12, List.forall_mem_append.mpr ⟨ia_Ti_13, List.forall_mem_append.mpr ⟨ia_Ti_14, ia_Ti_15⟩⟩⟩⟩⟩⟩⟩⟩⟩⟩⟩⟩⟩⟩⟩
theorem ia_good : ia_Ts.all goodWord = true := by decide +kernel
def ia_Ns : List ia_N := [("OffsetBook$Told", 44, "OffsetBook$Tape", "bytes", "[B", "OffsetBook"), ("OffsetBook", 65, "OffsetBook$Tape", "length", "I", "OffsetBook"), ("OffsetBook$Reader", 43, "OffsetBook$Tape", "place", "I", "OffsetBook"), ("OffsetBook", 61, "OffsetBook$Reader", "tape", "LOffsetBook$Tape;", "OffsetBook"), ("OffsetBook", 83, "OffsetBook$Reader", "gauges", "I", "OffsetBook"), ("OffsetBook", 87, "OffsetBook$Reader", "statements", "I", "OffsetBook"), ("OffsetBook", 151, "OffsetBook$Told", "letters", "[B", "OffsetBook"), ("OffsetBook", 148, "OffsetBook$Told", "lengths", "[I", "OffsetBook"), ("OffsetBook$Web", 75, "OffsetBook$Told", "first", "[I", "OffsetBook"), ("OffsetBook$Groups", 36, "OffsetBook$Told", "first", "[I", "OffsetBook"), ("OffsetBook", 123, "OffsetBook$Told", "first", "[I", "OffsetBook"), ("OffsetBook$Web", 72, "OffsetBook$Told", "second", "[I", "OffsetBook"), ("OffsetBook$Groups", 39, "OffsetBook$Told", "second", "[I", "OffsetBook"), ("OffsetBook", 126, "OffsetBook$Told", "second", "[I", "OffsetBook"), ("OffsetBook$Groups", 42, "OffsetBook$Told", "amount", "[J", "OffsetBook"), ("OffsetBook", 135, "OffsetBook$Told", "amount", "[J", "OffsetBook"), ("OffsetBook$Groups", 28, "OffsetBook$Told", "retracted", "[Z", "OffsetBook"), ("OffsetBook$Acts", 42, "OffsetBook$Told", "retracted", "[Z", "OffsetBook"), ("OffsetBook", 105, "OffsetBook$Told", "retracted", "[Z", "OffsetBook"), ("OffsetBook$Acts", 28, "OffsetBook$Told", "gauges", "I", "OffsetBook"), ("OffsetBook$Reader", 50, "OffsetBook$Told", "gauges", "I", "OffsetBook"), ("OffsetBook", 86, "OffsetBook$Told", "gauges", "I", "OffsetBook"), ("OffsetBook$Web", 62, "OffsetBook$Told", "statements", "I", "OffsetBook"), ("OffsetBook$Acts", 33, "OffsetBook$Told", "statements", "I", "OffsetBook"), ("OffsetBook$Groups", 22, "OffsetBook$Told", "statements", "I", "OffsetBook"), ("OffsetBook$Reader", 53, "OffsetBook$Told", "statements", "I", "OffsetBook"), ("OffsetBook", 90, "OffsetBook$Told", "statements", "I", "OffsetBook"), ("OffsetBook$Web", 67, "OffsetBook$Groups", "verdict", "[I", "OffsetBook"), ("OffsetBook", 119, "OffsetBook$Groups", "verdict", "[I", "OffsetBook"), ("OffsetBook", 155, "OffsetBook$Groups", "least", "[I", "OffsetBook"), ("OffsetBook", 158, "OffsetBook$Groups", "offset", "[J", "OffsetBook"), ("OffsetBook", 190, "OffsetBook$Web", "row", "[I", "OffsetBook"), ("OffsetBook", 207, "OffsetBook$Web", "times", "[I", "OffsetBook"), ("OffsetBook", 112, "OffsetBook$Acts", "undoable", "I", "OffsetBook")]
theorem ia_Np : ia_Ns.map ia_nw = ([108, 110, 112, 122, 124, 126, 144, 146, 148, 149, 150, 152, 153, 154, 156, 157, 159, 160, 161, 163, 164, 165, 167, 168, 169, 170, 171, 199, 200, 202, 204, 226, 228, 277] : List Nat).filterMap (fun i => lw_tbl[i]?) := by decide +kernel
theorem ia_Ns_in : ∀ w ∈ ia_Ns, ia_nw w ∈ lw_tbl := fun w h => by
  have h2 : ia_nw w ∈ ia_Ns.map ia_nw := List.mem_map_of_mem h
  rw [ia_Np] at h2
  obtain ⟨i, -, hi⟩ := List.mem_filterMap.mp h2
  exact List.mem_of_getElem? hi
end
section
/-! classes, and the methods' tables: printed by a program of mine out of the task's own texts -/
def RX0 : String := "OffsetBook$Acts"
def TX0 : u_T := fun k => match k with
  | 0 => ("OffsetBook$Acts", "turned", "[I", true)
  | 1 => ("OffsetBook$Acts", "gaugesAhead", "[I", true)
  | 2 => ("OffsetBook$Acts", "statementsAhead", "[I", true)
  | 3 => ("OffsetBook$Acts", "next", "I", false)
  | _ => ("OffsetBook$Acts", "undoable", "I", false)
def tyX0 : Nat → FieldType := fun k => match k with
  | 0 => .array .int
  | 1 => .array .int
  | 2 => .array .int
  | 3 => .int
  | _ => .int
theorem nmX0 : ∀ a, a < 5 → ∀ b, b < 5 → a ≠ b → (TX0 a).2.1 ≠ (TX0 b).2.1 := by decide +kernel
theorem tyX0_ok : ∀ k, k < 5 → parseFieldDescriptor (TX0 k).2.2.1 = some (tyX0 k) := by decide +kernel
theorem inX0 : ∀ w ∈ u_ws RX0 TX0 5, w ∈ ia_Ts := by decide +kernel
def RX1 : String := "OffsetBook$Groups"
def TX1 : u_T := fun k => match k with
  | 0 => ("OffsetBook$Groups", "verdict", "[I", true)
  | 1 => ("OffsetBook$Groups", "least", "[I", true)
  | _ => ("OffsetBook$Groups", "offset", "[J", true)
def tyX1 : Nat → FieldType := fun k => match k with
  | 0 => .array .int
  | 1 => .array .int
  | _ => .array .long
theorem nmX1 : ∀ a, a < 3 → ∀ b, b < 3 → a ≠ b → (TX1 a).2.1 ≠ (TX1 b).2.1 := by decide +kernel
theorem tyX1_ok : ∀ k, k < 3 → parseFieldDescriptor (TX1 k).2.2.1 = some (tyX1 k) := by decide +kernel
theorem inX1 : ∀ w ∈ u_ws RX1 TX1 3, w ∈ ia_Ts := by decide +kernel
def RX2 : String := "OffsetBook$Pins"
def TX2 : u_T := fun k => match k with
  | 0 => ("OffsetBook$Pins", "rooms", "[I", true)
  | _ => ("OffsetBook$Pins", "sorts", "[I", true)
def tyX2 : Nat → FieldType := fun k => match k with
  | 0 => .array .int
  | _ => .array .int
theorem nmX2 : ∀ a, a < 2 → ∀ b, b < 2 → a ≠ b → (TX2 a).2.1 ≠ (TX2 b).2.1 := by decide +kernel
theorem tyX2_ok : ∀ k, k < 2 → parseFieldDescriptor (TX2 k).2.2.1 = some (tyX2 k) := by decide +kernel
theorem inX2 : ∀ w ∈ u_ws RX2 TX2 2, w ∈ ia_Ts := by decide +kernel
def RX3 : String := "OffsetBook$Reader"
def TX3 : u_T := fun k => match k with
  | 0 => ("OffsetBook$Reader", "tape", "LOffsetBook$Tape;", true)
  | 1 => ("OffsetBook$Reader", "gauges", "I", false)
  | 2 => ("OffsetBook$Reader", "statements", "I", false)
  | _ => ("OffsetBook$Reader", "fault", "I", false)
def tyX3 : Nat → FieldType := fun k => match k with
  | 0 => .object "OffsetBook$Tape"
  | 1 => .int
  | 2 => .int
  | _ => .int
theorem nmX3 : ∀ a, a < 4 → ∀ b, b < 4 → a ≠ b → (TX3 a).2.1 ≠ (TX3 b).2.1 := by decide +kernel
theorem tyX3_ok : ∀ k, k < 4 → parseFieldDescriptor (TX3 k).2.2.1 = some (tyX3 k) := by decide +kernel
theorem inX3 : ∀ w ∈ u_ws RX3 TX3 4, w ∈ ia_Ts := by decide +kernel
def RX4 : String := "OffsetBook$Tape"
def TX4 : u_T := fun k => match k with
  | 0 => ("OffsetBook$Tape", "bytes", "[B", true)
  | 1 => ("OffsetBook$Tape", "length", "I", false)
  | _ => ("OffsetBook$Tape", "place", "I", false)
def tyX4 : Nat → FieldType := fun k => match k with
  | 0 => .array .byte
  | 1 => .int
  | _ => .int
theorem nmX4 : ∀ a, a < 3 → ∀ b, b < 3 → a ≠ b → (TX4 a).2.1 ≠ (TX4 b).2.1 := by decide +kernel
theorem tyX4_ok : ∀ k, k < 3 → parseFieldDescriptor (TX4 k).2.2.1 = some (tyX4 k) := by decide +kernel
theorem inX4 : ∀ w ∈ u_ws RX4 TX4 3, w ∈ ia_Ts := by decide +kernel
def RX5 : String := "OffsetBook$Told"
def TX5 : u_T := fun k => match k with
  | 0 => ("OffsetBook$Told", "letters", "[B", true)
  | 1 => ("OffsetBook$Told", "lengths", "[I", true)
  | 2 => ("OffsetBook$Told", "first", "[I", true)
  | 3 => ("OffsetBook$Told", "second", "[I", true)
  | 4 => ("OffsetBook$Told", "amount", "[J", true)
  | 5 => ("OffsetBook$Told", "retracted", "[Z", true)
  | 6 => ("OffsetBook$Told", "gauges", "I", false)
  | _ => ("OffsetBook$Told", "statements", "I", false)
def tyX5 : Nat → FieldType := fun k => match k with
  | 0 => .array .byte
  | 1 => .array .int
  | 2 => .array .int
  | 3 => .array .int
  | 4 => .array .long
  | 5 => .array .boolean
  | 6 => .int
  | _ => .int
theorem nmX5 : ∀ a, a < 8 → ∀ b, b < 8 → a ≠ b → (TX5 a).2.1 ≠ (TX5 b).2.1 := by decide +kernel
theorem tyX5_ok : ∀ k, k < 8 → parseFieldDescriptor (TX5 k).2.2.1 = some (tyX5 k) := by decide +kernel
theorem inX5 : ∀ w ∈ u_ws RX5 TX5 8, w ∈ ia_Ts := by decide +kernel
def RX6 : String := "OffsetBook$Web"
def TX6 : u_T := fun k => match k with
  | 0 => ("OffsetBook$Web", "leads", "[I", true)
  | 1 => ("OffsetBook$Web", "ways", "[I", true)
  | 2 => ("OffsetBook$Web", "begins", "[I", true)
  | 3 => ("OffsetBook$Web", "sorted", "[I", true)
  | 4 => ("OffsetBook$Web", "row", "[I", true)
  | 5 => ("OffsetBook$Web", "times", "[I", true)
  | 6 => ("OffsetBook$Web", "reached", "[I", true)
  | 7 => ("OffsetBook$Web", "howManyReached", "I", false)
  | 8 => ("OffsetBook$Web", "steps", "[I", true)
  | 9 => ("OffsetBook$Web", "reachedBy", "[I", true)
  | 10 => ("OffsetBook$Web", "flow", "[I", true)
  | 11 => ("OffsetBook$Web", "onRing", "[Z", true)
  | 12 => ("OffsetBook$Web", "below", "[I", true)
  | _ => ("OffsetBook$Web", "rely", "[I", true)
def tyX6 : Nat → FieldType := fun k => match k with
  | 0 => .array .int
  | 1 => .array .int
  | 2 => .array .int
  | 3 => .array .int
  | 4 => .array .int
  | 5 => .array .int
  | 6 => .array .int
  | 7 => .int
  | 8 => .array .int
  | 9 => .array .int
  | 10 => .array .int
  | 11 => .array .boolean
  | 12 => .array .int
  | _ => .array .int
theorem nmX6 : ∀ a, a < 14 → ∀ b, b < 14 → a ≠ b → (TX6 a).2.1 ≠ (TX6 b).2.1 := by decide +kernel
theorem tyX6_ok : ∀ k, k < 14 → parseFieldDescriptor (TX6 k).2.2.1 = some (tyX6 k) := by decide +kernel
theorem inX6 : ∀ w ∈ u_ws RX6 TX6 14, w ∈ ia_Ts := by decide +kernel
def RX7 : String := "OffsetBook"
def TX7 : u_T := fun k => match k with
  | 0 => ("OffsetBook", "reader", "LOffsetBook$Reader;", true)
  | 1 => ("OffsetBook", "told", "LOffsetBook$Told;", true)
  | 2 => ("OffsetBook", "groups", "LOffsetBook$Groups;", true)
  | 3 => ("OffsetBook", "web", "LOffsetBook$Web;", true)
  | 4 => ("OffsetBook", "acts", "LOffsetBook$Acts;", true)
  | 5 => ("OffsetBook", "pins", "LOffsetBook$Pins;", true)
  | 6 => ("OffsetBook", "images", "[LOffsetBook$Told;", true)
  | _ => ("OffsetBook", "imageMade", "[Z", true)
def tyX7 : Nat → FieldType := fun k => match k with
  | 0 => .object "OffsetBook$Reader"
  | 1 => .object "OffsetBook$Told"
  | 2 => .object "OffsetBook$Groups"
  | 3 => .object "OffsetBook$Web"
  | 4 => .object "OffsetBook$Acts"
  | 5 => .object "OffsetBook$Pins"
  | 6 => .array (.object "OffsetBook$Told")
  | _ => .array .boolean
theorem nmX7 : ∀ a, a < 8 → ∀ b, b < 8 → a ≠ b → (TX7 a).2.1 ≠ (TX7 b).2.1 := by decide +kernel
theorem tyX7_ok : ∀ k, k < 8 → parseFieldDescriptor (TX7 k).2.2.1 = some (tyX7 k) := by decide +kernel
theorem inX7 : ∀ w ∈ u_ws RX7 TX7 8, w ∈ ia_Ts := by decide +kernel
def RX8 : String := "OffsetBookModel"
def TX8 : u_T := fun k => match k with
  | 0 => ("OffsetBookModel", "tape", "[B", true)
  | 1 => ("OffsetBookModel", "taped", "I", false)
  | 2 => ("OffsetBookModel", "at", "I", false)
  | 3 => ("OffsetBookModel", "wrong", "I", false)
  | 4 => ("OffsetBookModel", "gauges", "I", false)
  | 5 => ("OffsetBookModel", "name", "[I", true)
  | 6 => ("OffsetBookModel", "gaugesRead", "I", false)
  | 7 => ("OffsetBookModel", "letters", "[I", true)
  | 8 => ("OffsetBookModel", "gaugeRead", "I", false)
  | 9 => ("OffsetBookModel", "numberRead", "J", false)
  | 10 => ("OffsetBookModel", "statements", "I", false)
  | 11 => ("OffsetBookModel", "one", "[I", true)
  | 12 => ("OffsetBookModel", "other", "[I", true)
  | 13 => ("OffsetBookModel", "amounts", "[J", true)
  | 14 => ("OffsetBookModel", "isOut", "[Z", true)
  | 15 => ("OffsetBookModel", "statementsRead", "I", false)
  | 16 => ("OffsetBookModel", "groupOf", "[I", true)
  | 17 => ("OffsetBookModel", "by", "[J", true)
  | 18 => ("OffsetBookModel", "kind", "[I", true)
  | 19 => ("OffsetBookModel", "held", "[I", true)
  | 20 => ("OffsetBookModel", "heldAmount", "[J", true)
  | 21 => ("OffsetBookModel", "hasImage", "[Z", true)
  | 22 => ("OffsetBookModel", "undone", "I", false)
  | 23 => ("OffsetBookModel", "isReached", "[Z", true)
  | 24 => ("OffsetBookModel", "queue", "[I", true)
  | 25 => ("OffsetBookModel", "row", "[I", true)
  | 26 => ("OffsetBookModel", "far", "[I", true)
  | 27 => ("OffsetBookModel", "link", "[I", true)
  | 28 => ("OffsetBookModel", "inChains", "[I", true)
  | 29 => ("OffsetBookModel", "flow", "[I", true)
  | 30 => ("OffsetBookModel", "cameBy", "[I", true)
  | 31 => ("OffsetBookModel", "pinSort", "[I", true)
  | _ => ("OffsetBookModel", "room", "[I", true)
def tyX8 : Nat → FieldType := fun k => match k with
  | 0 => .array .byte
  | 1 => .int
  | 2 => .int
  | 3 => .int
  | 4 => .int
  | 5 => .array .int
  | 6 => .int
  | 7 => .array .int
  | 8 => .int
  | 9 => .long
  | 10 => .int
  | 11 => .array .int
  | 12 => .array .int
  | 13 => .array .long
  | 14 => .array .boolean
  | 15 => .int
  | 16 => .array .int
  | 17 => .array .long
  | 18 => .array .int
  | 19 => .array .int
  | 20 => .array .long
  | 21 => .array .boolean
  | 22 => .int
  | 23 => .array .boolean
  | 24 => .array .int
  | 25 => .array .int
  | 26 => .array .int
  | 27 => .array .int
  | 28 => .array .int
  | 29 => .array .int
  | 30 => .array .int
  | 31 => .array .int
  | _ => .array .int
theorem nmX8 : ∀ a, a < 33 → ∀ b, b < 33 → a ≠ b → (TX8 a).2.1 ≠ (TX8 b).2.1 := by decide +kernel
theorem tyX8_ok : ∀ k, k < 33 → parseFieldDescriptor (TX8 k).2.2.1 = some (tyX8 k) := by decide +kernel
theorem inX8 : ∀ w ∈ u_ws RX8 TX8 33, w ∈ ia_Ts := by decide +kernel
abbrev ia_cl : List vw_C := [(RX0, TX0, 5), (RX1, TX1, 3), (RX2, TX2, 2), (RX3, TX3, 4), (RX4, TX4, 3), (RX5, TX5, 8), (RX6, TX6, 14), (RX7, TX7, 8), (RX8, TX8, 33)]
def ia_ty : Nat → Nat → FieldType := fun c => match c with
  | 0 => tyX0
  | 1 => tyX1
  | 2 => tyX2
  | 3 => tyX3
  | 4 => tyX4
  | 5 => tyX5
  | 6 => tyX6
  | 7 => tyX7
  | _ => tyX8
theorem ia_Cl_ok : ia_Cl ia_Ts ia_cl ia_ty := by
  intro c q hq
  match c, hq with
  | 0, hq => cases hq; exact ⟨inX0, tyX0_ok, nmX0⟩
  | 1, hq => cases hq; exact ⟨inX1, tyX1_ok, nmX1⟩
  | 2, hq => cases hq; exact ⟨inX2, tyX2_ok, nmX2⟩
  | 3, hq => cases hq; exact ⟨inX3, tyX3_ok, nmX3⟩
  | 4, hq => cases hq; exact ⟨inX4, tyX4_ok, nmX4⟩
  | 5, hq => cases hq; exact ⟨inX5, tyX5_ok, nmX5⟩
  | 6, hq => cases hq; exact ⟨inX6, tyX6_ok, nmX6⟩
  | 7, hq => cases hq; exact ⟨inX7, tyX7_ok, nmX7⟩
  | 8, hq => cases hq; exact ⟨inX8, tyX8_ok, nmX8⟩
  | n + 9, hq => simp [ia_cl] at hq
def ia_k_X0_add : List (List ia_E) := [[(0, .aload_n 0, 1, 0, 0, 0, .null, []), (1, .getfield 9, 3, 0, 0, 180, .null, []), (4, .aload_n 0, 1, 0, 0, 0, .null, []), (5, .getfield 21, 3, 0, 3, 183, .null, []), (8, .iload_n 1, 1, 0, 0, 0, .null, []), (9, .iastore, 1, 0, 0, 0, .null, []), (10, .aload_n 0, 1, 0, 0, 0, .null, []), (11, .getfield 15, 3, 0, 1, 181, .null, []), (14, .aload_n 0, 1, 0, 0, 0, .null, []), (15, .getfield 21, 3, 0, 3, 183, .null, [])],
  [(18, .aload_n 2, 1, 0, 0, 0, .null, []), (19, .getfield 28, 3, 5, 6, 19, .null, []), (22, .iastore, 1, 0, 0, 0, .null, []), (23, .aload_n 0, 1, 0, 0, 0, .null, []), (24, .getfield 18, 3, 0, 2, 182, .null, []), (27, .aload_n 0, 1, 0, 0, 0, .null, []), (28, .getfield 21, 3, 0, 3, 183, .null, []), (31, .aload_n 2, 1, 0, 0, 0, .null, [])],
  [(32, .getfield 33, 3, 5, 7, 23, .null, []), (35, .iastore, 1, 0, 0, 0, .null, []), (36, .aload_n 0, 1, 0, 0, 0, .null, []), (37, .aload_n 0, 1, 0, 0, 0, .null, []), (38, .getfield 21, 3, 0, 3, 183, .null, []), (41, .iconst 1, 1, 0, 0, 0, .int 1, []), (42, .iadd, 1, 0, 0, 0, .null, []), (43, .bipush 20, 2, 0, 0, 0, .int 20, []), (45, .if_icmp .ge 12, 3, 57, 0, 0, .null, [])],
  [(48, .aload_n 0, 1, 0, 0, 0, .null, []), (49, .getfield 21, 3, 0, 3, 183, .null, []), (52, .iconst 1, 1, 0, 0, 0, .int 1, []), (53, .iadd, 1, 0, 0, 0, .null, []), (54, .goto 4, 3, 58, 0, 0, .null, []), (57, .iconst 0, 1, 0, 0, 0, .int 0, []), (58, .putfield 21, 3, 0, 3, 183, .null, []), (61, .aload_n 0, 1, 0, 0, 0, .null, []), (62, .aload_n 0, 1, 0, 0, 0, .null, []), (63, .getfield 25, 3, 0, 4, 184, .null, [])],
  [(66, .iconst 1, 1, 0, 0, 0, .int 1, []), (67, .iadd, 1, 0, 0, 0, .null, []), (68, .bipush 20, 2, 0, 0, 0, .int 20, []), (70, .invokestatic 36, 3, 5, 2, 310, .null, [(0, 312), (0, 311), (0, 84)]), (73, .putfield 25, 3, 0, 4, 184, .null, []), (76, .return_, 1, 0, 0, 0, .null, [])]]
def ia_m_X0_add : ia_M := ("OffsetBook$Acts", ⟨"OffsetBook$Acts", "add", "(ILOffsetBook$Told;)V"⟩, prog_2_method_2_code, 3, none, 2, ia_k_X0_add, (309, 80, 307, 308), (1, 23))
def ia_k_X0_takeBackLast : List (List ia_E) := [[(0, .aload_n 0, 1, 0, 0, 0, .null, []), (1, .aload_n 0, 1, 0, 0, 0, .null, []), (2, .getfield 21, 3, 0, 3, 183, .null, []), (5, .ifCond .le 12, 3, 17, 0, 0, .null, []), (8, .aload_n 0, 1, 0, 0, 0, .null, []), (9, .getfield 21, 3, 0, 3, 183, .null, []), (12, .iconst 1, 1, 0, 0, 0, .int 1, []), (13, .isub, 1, 0, 0, 0, .null, []), (14, .goto 5, 3, 19, 0, 0, .null, [])],
  [(17, .bipush 19, 2, 0, 0, 0, .int 19, []), (19, .putfield 21, 3, 0, 3, 183, .null, []), (22, .aload_n 0, 1, 0, 0, 0, .null, []), (23, .dup, 1, 0, 0, 0, .null, []), (24, .getfield 25, 3, 0, 4, 184, .null, []), (27, .iconst 1, 1, 0, 0, 0, .int 1, []), (28, .isub, 1, 0, 0, 0, .null, []), (29, .putfield 25, 3, 0, 4, 184, .null, [])],
  [(32, .aload_n 1, 1, 0, 0, 0, .null, []), (33, .aload_n 0, 1, 0, 0, 0, .null, []), (34, .getfield 15, 3, 0, 1, 181, .null, []), (37, .aload_n 0, 1, 0, 0, 0, .null, []), (38, .getfield 21, 3, 0, 3, 183, .null, []), (41, .iaload, 1, 0, 0, 0, .null, []), (42, .putfield 28, 3, 5, 6, 19, .null, []), (45, .aload_n 1, 1, 0, 0, 0, .null, []), (46, .aload_n 0, 1, 0, 0, 0, .null, []), (47, .getfield 18, 3, 0, 2, 182, .null, [])],
  [(50, .aload_n 0, 1, 0, 0, 0, .null, []), (51, .getfield 21, 3, 0, 3, 183, .null, []), (54, .iaload, 1, 0, 0, 0, .null, []), (55, .putfield 33, 3, 5, 7, 23, .null, []), (58, .aload_n 0, 1, 0, 0, 0, .null, []), (59, .getfield 9, 3, 0, 0, 180, .null, []), (62, .aload_n 0, 1, 0, 0, 0, .null, []), (63, .getfield 21, 3, 0, 3, 183, .null, [])],
  [(66, .iaload, 1, 0, 0, 0, .null, []), (67, .istore_n 2, 1, 0, 0, 0, .null, []), (68, .iload_n 2, 1, 0, 0, 0, .null, []), (69, .iconst (-1), 1, 0, 0, 0, .int (-1), []), (70, .if_icmp .eq 23, 3, 93, 0, 0, .null, []), (73, .aload_n 1, 1, 0, 0, 0, .null, []), (74, .getfield 42, 3, 5, 5, 17, .null, []), (77, .iload_n 2, 1, 0, 0, 0, .null, []), (78, .aload_n 1, 1, 0, 0, 0, .null, []), (79, .getfield 42, 3, 5, 5, 17, .null, [])],
  [(82, .iload_n 2, 1, 0, 0, 0, .null, []), (83, .baload, 1, 0, 0, 0, .null, []), (84, .ifCond .ne 7, 3, 91, 0, 0, .null, []), (87, .iconst 1, 1, 0, 0, 0, .int 1, []), (88, .goto 4, 3, 92, 0, 0, .null, []), (91, .iconst 0, 1, 0, 0, 0, .int 0, []), (92, .bastore, 1, 0, 0, 0, .null, []), (93, .return_, 1, 0, 0, 0, .null, [])]]
def ia_m_X0_takeBackLast : ia_M := ("OffsetBook$Acts", ⟨"OffsetBook$Acts", "takeBackLast", "(LOffsetBook$Told;)V"⟩, prog_2_method_3_code, 3, none, 1, ia_k_X0_takeBackLast, (386, 80, 384, 385), (0, 0))
def ia_k_X1_judge : List (List ia_E) := [[(0, .iconst 0, 1, 0, 0, 0, .int 0, []), (1, .istore_n 2, 1, 0, 0, 0, .null, []), (2, .iload_n 2, 1, 0, 0, 0, .null, []), (3, .bipush 41, 2, 0, 0, 0, .int 41, []), (5, .if_icmp .ge 23, 3, 28, 0, 0, .null, []), (8, .aload_n 0, 1, 0, 0, 0, .null, []), (9, .getfield 15, 3, 1, 1, 137, .null, []), (12, .iload_n 2, 1, 0, 0, 0, .null, []), (13, .iload_n 2, 1, 0, 0, 0, .null, []), (14, .iastore, 1, 0, 0, 0, .null, []), (15, .aload_n 0, 1, 0, 0, 0, .null, [])],
  [(16, .getfield 18, 3, 1, 2, 138, .null, []), (19, .iload_n 2, 1, 0, 0, 0, .null, []), (20, .lconst 0, 1, 0, 0, 0, .long 0, []), (21, .lastore, 1, 0, 0, 0, .null, []), (22, .iinc 2 1, 3, 0, 0, 0, .int 1, []), (25, .goto (-23), 3, 2, 0, 0, .null, []), (28, .iconst 0, 1, 0, 0, 0, .int 0, []), (29, .istore_n 2, 1, 0, 0, 0, .null, []), (30, .iload_n 2, 1, 0, 0, 0, .null, []), (31, .aload_n 1, 1, 0, 0, 0, .null, [])],
  [(32, .getfield 22, 3, 5, 7, 24, .null, []), (35, .if_icmp .ge 65, 3, 100, 0, 0, .null, []), (38, .aload_n 0, 1, 0, 0, 0, .null, []), (39, .getfield 9, 3, 1, 0, 136, .null, []), (42, .iload_n 2, 1, 0, 0, 0, .null, []), (43, .aload_n 1, 1, 0, 0, 0, .null, []), (44, .getfield 28, 3, 5, 5, 16, .null, []), (47, .iload_n 2, 1, 0, 0, 0, .null, [])],
  [(48, .baload, 1, 0, 0, 0, .null, []), (49, .ifCond .eq 7, 3, 56, 0, 0, .null, []), (52, .iconst 4, 1, 0, 0, 0, .int 4, []), (53, .goto 9, 3, 62, 0, 0, .null, []), (56, .aload_n 0, 1, 0, 0, 0, .null, []), (57, .aload_n 1, 1, 0, 0, 0, .null, []), (58, .iload_n 2, 1, 0, 0, 0, .null, []), (59, .invokevirtual 32, 3, 3, 2, 320, .ref 1, []), (62, .iastore, 1, 0, 0, 0, .null, []), (63, .aload_n 0, 1, 0, 0, 0, .null, [])],
  [(64, .getfield 9, 3, 1, 0, 136, .null, []), (67, .iload_n 2, 1, 0, 0, 0, .null, []), (68, .iaload, 1, 0, 0, 0, .null, []), (69, .ifCond .ne 25, 3, 94, 0, 0, .null, []), (72, .aload_n 0, 1, 0, 0, 0, .null, []), (73, .aload_n 1, 1, 0, 0, 0, .null, []), (74, .getfield 36, 3, 5, 2, 9, .null, []), (77, .iload_n 2, 1, 0, 0, 0, .null, []), (78, .iaload, 1, 0, 0, 0, .null, []), (79, .aload_n 1, 1, 0, 0, 0, .null, [])],
  [(80, .getfield 39, 3, 5, 3, 12, .null, []), (83, .iload_n 2, 1, 0, 0, 0, .null, []), (84, .iaload, 1, 0, 0, 0, .null, []), (85, .aload_n 1, 1, 0, 0, 0, .null, []), (86, .getfield 42, 3, 5, 4, 14, .null, []), (89, .iload_n 2, 1, 0, 0, 0, .null, []), (90, .laload, 1, 0, 0, 0, .null, []), (91, .invokevirtual 45, 3, 4, 3, 339, .ref 1, []), (94, .iinc 2 1, 3, 0, 0, 0, .int 1, [])],
  [(97, .goto (-67), 3, 30, 0, 0, .null, []), (100, .return_, 1, 0, 0, 0, .null, [])]]
def ia_m_X1_judge : ia_M := ("OffsetBook$Groups", ⟨"OffsetBook$Groups", "judge", "(LOffsetBook$Told;)V"⟩, prog_3_method_2_code, 3, none, 1, ia_k_X1_judge, (319, 77, 317, 318), (3, 79))
def ia_k_X1_weigh : List (List ia_E) := [[(0, .aload_n 1, 1, 0, 0, 0, .null, []), (1, .getfield 36, 3, 5, 2, 9, .null, []), (4, .iload_n 2, 1, 0, 0, 0, .null, []), (5, .iaload, 1, 0, 0, 0, .null, []), (6, .istore_n 3, 1, 0, 0, 0, .null, []), (7, .aload_n 1, 1, 0, 0, 0, .null, []), (8, .getfield 39, 3, 5, 3, 12, .null, []), (11, .iload_n 2, 1, 0, 0, 0, .null, []), (12, .iaload, 1, 0, 0, 0, .null, []), (13, .istore 4, 2, 0, 0, 0, .null, []), (15, .aload_n 1, 1, 0, 0, 0, .null, [])],
  [(16, .getfield 42, 3, 5, 4, 14, .null, []), (19, .iload_n 2, 1, 0, 0, 0, .null, []), (20, .laload, 1, 0, 0, 0, .null, []), (21, .lstore 5, 2, 0, 0, 0, .null, []), (23, .aload_n 0, 1, 0, 0, 0, .null, []), (24, .getfield 15, 3, 1, 1, 137, .null, []), (27, .iload_n 3, 1, 0, 0, 0, .null, []), (28, .iaload, 1, 0, 0, 0, .null, []), (29, .aload_n 0, 1, 0, 0, 0, .null, []), (30, .getfield 15, 3, 1, 1, 137, .null, [])],
  [(33, .iload 4, 2, 0, 0, 0, .null, []), (35, .iaload, 1, 0, 0, 0, .null, []), (36, .if_icmp .ne 29, 3, 65, 0, 0, .null, []), (39, .aload_n 0, 1, 0, 0, 0, .null, []), (40, .getfield 18, 3, 1, 2, 138, .null, []), (43, .iload_n 3, 1, 0, 0, 0, .null, []), (44, .laload, 1, 0, 0, 0, .null, []), (45, .aload_n 0, 1, 0, 0, 0, .null, []), (46, .getfield 18, 3, 1, 2, 138, .null, [])],
  [(49, .iload 4, 2, 0, 0, 0, .null, []), (51, .laload, 1, 0, 0, 0, .null, []), (52, .lsub, 1, 0, 0, 0, .null, []), (53, .lload 5, 2, 0, 0, 0, .null, []), (55, .lcmp, 1, 0, 0, 0, .null, []), (56, .ifCond .ne 7, 3, 63, 0, 0, .null, []), (59, .iconst 1, 1, 0, 0, 0, .int 1, []), (60, .goto 4, 3, 64, 0, 0, .null, []), (63, .iconst 2, 1, 0, 0, 0, .int 2, [])],
  [(64, .ireturn, 1, 0, 0, 0, .null, []), (65, .aload_n 0, 1, 0, 0, 0, .null, []), (66, .getfield 18, 3, 1, 2, 138, .null, []), (69, .iload 4, 2, 0, 0, 0, .null, []), (71, .laload, 1, 0, 0, 0, .null, []), (72, .lload 5, 2, 0, 0, 0, .null, []), (74, .ladd, 1, 0, 0, 0, .null, []), (75, .aload_n 0, 1, 0, 0, 0, .null, []), (76, .getfield 18, 3, 1, 2, 138, .null, []), (79, .iload_n 3, 1, 0, 0, 0, .null, [])],
  [(80, .laload, 1, 0, 0, 0, .null, []), (81, .lsub, 1, 0, 0, 0, .null, []), (82, .lstore 7, 2, 0, 0, 0, .null, []), (84, .aload_n 0, 1, 0, 0, 0, .null, []), (85, .aload_n 0, 1, 0, 0, 0, .null, []), (86, .getfield 15, 3, 1, 1, 137, .null, []), (89, .iload 4, 2, 0, 0, 0, .null, []), (91, .iaload, 1, 0, 0, 0, .null, []), (92, .invokevirtual 49, 3, 6, 1, 324, .ref 1, []), (95, .aload_n 0, 1, 0, 0, 0, .null, [])],
  [(96, .aload_n 0, 1, 0, 0, 0, .null, []), (97, .getfield 15, 3, 1, 1, 137, .null, []), (100, .iload_n 3, 1, 0, 0, 0, .null, []), (101, .iaload, 1, 0, 0, 0, .null, []), (102, .invokevirtual 49, 3, 6, 1, 324, .ref 1, []), (105, .lload 7, 2, 0, 0, 0, .null, []), (107, .ladd, 1, 0, 0, 0, .null, []), (108, .invokestatic 53, 3, 2, 2, 328, .null, [(0, 330), (0, 329), (0, 84)]), (111, .lstore 9, 2, 0, 0, 0, .null, [])],
  [(113, .aload_n 0, 1, 0, 0, 0, .null, []), (114, .aload_n 0, 1, 0, 0, 0, .null, []), (115, .getfield 15, 3, 1, 1, 137, .null, []), (118, .iload 4, 2, 0, 0, 0, .null, []), (120, .iaload, 1, 0, 0, 0, .null, []), (121, .invokevirtual 59, 3, 7, 1, 331, .ref 1, []), (124, .aload_n 0, 1, 0, 0, 0, .null, []), (125, .aload_n 0, 1, 0, 0, 0, .null, []), (126, .getfield 15, 3, 1, 1, 137, .null, [])],
  [(129, .iload_n 3, 1, 0, 0, 0, .null, []), (130, .iaload, 1, 0, 0, 0, .null, []), (131, .invokevirtual 59, 3, 7, 1, 331, .ref 1, []), (134, .lload 7, 2, 0, 0, 0, .null, []), (136, .ladd, 1, 0, 0, 0, .null, []), (137, .invokestatic 62, 3, 3, 2, 335, .null, [(0, 337), (0, 336), (0, 84)]), (140, .lstore 11, 2, 0, 0, 0, .null, []), (142, .lload 9, 2, 0, 0, 0, .null, [])],
  [(144, .lload 11, 2, 0, 0, 0, .null, []), (146, .lsub, 1, 0, 0, 0, .null, []), (147, .ldc2_w 65, 3, 0, 0, 338, .long 1000000000000000000, []), (150, .lcmp, 1, 0, 0, 0, .null, []), (151, .ifCond .le 7, 3, 158, 0, 0, .null, []), (154, .iconst 3, 1, 0, 0, 0, .int 3, []), (155, .goto 4, 3, 159, 0, 0, .null, []), (158, .iconst 0, 1, 0, 0, 0, .int 0, []), (159, .ireturn, 1, 0, 0, 0, .null, [])]]
def ia_m_X1_weigh : ia_M := ("OffsetBook$Groups", ⟨"OffsetBook$Groups", "weigh", "(LOffsetBook$Told;I)I"⟩, prog_3_method_3_code, 13, (some .int), 2, ia_k_X1_weigh, (323, 77, 321, 322), (2, 47))
def ia_k_X1_join : List (List ia_E) := [[(0, .aload_n 0, 1, 0, 0, 0, .null, []), (1, .getfield 18, 3, 1, 2, 138, .null, []), (4, .iload_n 2, 1, 0, 0, 0, .null, []), (5, .laload, 1, 0, 0, 0, .null, []), (6, .lload_n 3, 1, 0, 0, 0, .null, []), (7, .ladd, 1, 0, 0, 0, .null, []), (8, .aload_n 0, 1, 0, 0, 0, .null, []), (9, .getfield 18, 3, 1, 2, 138, .null, []), (12, .iload_n 1, 1, 0, 0, 0, .null, []), (13, .laload, 1, 0, 0, 0, .null, []), (14, .lsub, 1, 0, 0, 0, .null, []), (15, .lstore 5, 2, 0, 0, 0, .null, [])],
  [(17, .aload_n 0, 1, 0, 0, 0, .null, []), (18, .getfield 15, 3, 1, 1, 137, .null, []), (21, .iload_n 1, 1, 0, 0, 0, .null, []), (22, .iaload, 1, 0, 0, 0, .null, []), (23, .aload_n 0, 1, 0, 0, 0, .null, []), (24, .getfield 15, 3, 1, 1, 137, .null, []), (27, .iload_n 2, 1, 0, 0, 0, .null, []), (28, .iaload, 1, 0, 0, 0, .null, []), (29, .if_icmp .ge 25, 3, 54, 0, 0, .null, [])],
  [(32, .aload_n 0, 1, 0, 0, 0, .null, []), (33, .aload_n 0, 1, 0, 0, 0, .null, []), (34, .getfield 15, 3, 1, 1, 137, .null, []), (37, .iload_n 2, 1, 0, 0, 0, .null, []), (38, .iaload, 1, 0, 0, 0, .null, []), (39, .aload_n 0, 1, 0, 0, 0, .null, []), (40, .getfield 15, 3, 1, 1, 137, .null, []), (43, .iload_n 1, 1, 0, 0, 0, .null, []), (44, .iaload, 1, 0, 0, 0, .null, []), (45, .lload 5, 2, 0, 0, 0, .null, []), (47, .lneg, 1, 0, 0, 0, .null, [])],
  [(48, .invokevirtual 67, 3, 5, 3, 342, .ref 1, []), (51, .goto 21, 3, 72, 0, 0, .null, []), (54, .aload_n 0, 1, 0, 0, 0, .null, []), (55, .aload_n 0, 1, 0, 0, 0, .null, []), (56, .getfield 15, 3, 1, 1, 137, .null, []), (59, .iload_n 1, 1, 0, 0, 0, .null, []), (60, .iaload, 1, 0, 0, 0, .null, []), (61, .aload_n 0, 1, 0, 0, 0, .null, []), (62, .getfield 15, 3, 1, 1, 137, .null, [])],
  [(65, .iload_n 2, 1, 0, 0, 0, .null, []), (66, .iaload, 1, 0, 0, 0, .null, []), (67, .lload 5, 2, 0, 0, 0, .null, []), (69, .invokevirtual 67, 3, 5, 3, 342, .ref 1, []), (72, .return_, 1, 0, 0, 0, .null, [])]]
def ia_m_X1_join : ia_M := ("OffsetBook$Groups", ⟨"OffsetBook$Groups", "join", "(IIJ)V"⟩, prog_3_method_4_code, 7, none, 3, ia_k_X1_join, (341, 77, 340, 11), (1, 25))
def ia_k_X1_move : List (List ia_E) := [[(0, .iconst 0, 1, 0, 0, 0, .int 0, []), (1, .istore 5, 2, 0, 0, 0, .null, []), (3, .iload 5, 2, 0, 0, 0, .null, []), (5, .bipush 41, 2, 0, 0, 0, .int 41, []), (7, .if_icmp .ge 39, 3, 46, 0, 0, .null, []), (10, .aload_n 0, 1, 0, 0, 0, .null, []), (11, .getfield 15, 3, 1, 1, 137, .null, []), (14, .iload 5, 2, 0, 0, 0, .null, [])],
  [(16, .iaload, 1, 0, 0, 0, .null, []), (17, .iload_n 1, 1, 0, 0, 0, .null, []), (18, .if_icmp .ne 22, 3, 40, 0, 0, .null, []), (21, .aload_n 0, 1, 0, 0, 0, .null, []), (22, .getfield 15, 3, 1, 1, 137, .null, []), (25, .iload 5, 2, 0, 0, 0, .null, []), (27, .iload_n 2, 1, 0, 0, 0, .null, []), (28, .iastore, 1, 0, 0, 0, .null, []), (29, .aload_n 0, 1, 0, 0, 0, .null, []), (30, .getfield 18, 3, 1, 2, 138, .null, [])],
  [(33, .iload 5, 2, 0, 0, 0, .null, []), (35, .dup2, 1, 0, 0, 0, .null, []), (36, .laload, 1, 0, 0, 0, .null, []), (37, .lload_n 3, 1, 0, 0, 0, .null, []), (38, .ladd, 1, 0, 0, 0, .null, []), (39, .lastore, 1, 0, 0, 0, .null, []), (40, .iinc 5 1, 3, 0, 0, 0, .int 1, []), (43, .goto (-40), 3, 3, 0, 0, .null, []), (46, .return_, 1, 0, 0, 0, .null, [])]]
def ia_m_X1_move : ia_M := ("OffsetBook$Groups", ⟨"OffsetBook$Groups", "move", "(IIJ)V"⟩, prog_3_method_5_code, 6, none, 3, ia_k_X1_move, (344, 77, 343, 12), (0, 0))
def ia_k_X1_highest : List (List ia_E) := [[(0, .lconst 0, 1, 0, 0, 0, .long 0, []), (1, .lstore_n 2, 1, 0, 0, 0, .null, []), (2, .iconst 0, 1, 0, 0, 0, .int 0, []), (3, .istore 4, 2, 0, 0, 0, .null, []), (5, .iload 4, 2, 0, 0, 0, .null, []), (7, .bipush 41, 2, 0, 0, 0, .int 41, []), (9, .if_icmp .ge 32, 3, 41, 0, 0, .null, []), (12, .aload_n 0, 1, 0, 0, 0, .null, []), (13, .getfield 15, 3, 1, 1, 137, .null, [])],
  [(16, .iload 4, 2, 0, 0, 0, .null, []), (18, .iaload, 1, 0, 0, 0, .null, []), (19, .iload_n 1, 1, 0, 0, 0, .null, []), (20, .if_icmp .ne 15, 3, 35, 0, 0, .null, []), (23, .lload_n 2, 1, 0, 0, 0, .null, []), (24, .aload_n 0, 1, 0, 0, 0, .null, []), (25, .getfield 18, 3, 1, 2, 138, .null, []), (28, .iload 4, 2, 0, 0, 0, .null, []), (30, .laload, 1, 0, 0, 0, .null, []), (31, .invokestatic 53, 3, 2, 2, 328, .null, [(0, 330), (0, 329), (0, 84)])],
  [(34, .lstore_n 2, 1, 0, 0, 0, .null, []), (35, .iinc 4 1, 3, 0, 0, 0, .int 1, []), (38, .goto (-33), 3, 5, 0, 0, .null, []), (41, .lload_n 2, 1, 0, 0, 0, .null, []), (42, .lreturn, 1, 0, 0, 0, .null, [])]]
def ia_m_X1_highest : ia_M := ("OffsetBook$Groups", ⟨"OffsetBook$Groups", "highest", "(I)J"⟩, prog_3_method_6_code, 5, (some .long), 1, ia_k_X1_highest, (327, 77, 325, 326), (1, 23))
def ia_k_X1_lowest : List (List ia_E) := [[(0, .lconst 0, 1, 0, 0, 0, .long 0, []), (1, .lstore_n 2, 1, 0, 0, 0, .null, []), (2, .iconst 0, 1, 0, 0, 0, .int 0, []), (3, .istore 4, 2, 0, 0, 0, .null, []), (5, .iload 4, 2, 0, 0, 0, .null, []), (7, .bipush 41, 2, 0, 0, 0, .int 41, []), (9, .if_icmp .ge 32, 3, 41, 0, 0, .null, []), (12, .aload_n 0, 1, 0, 0, 0, .null, []), (13, .getfield 15, 3, 1, 1, 137, .null, [])],
  [(16, .iload 4, 2, 0, 0, 0, .null, []), (18, .iaload, 1, 0, 0, 0, .null, []), (19, .iload_n 1, 1, 0, 0, 0, .null, []), (20, .if_icmp .ne 15, 3, 35, 0, 0, .null, []), (23, .lload_n 2, 1, 0, 0, 0, .null, []), (24, .aload_n 0, 1, 0, 0, 0, .null, []), (25, .getfield 18, 3, 1, 2, 138, .null, []), (28, .iload 4, 2, 0, 0, 0, .null, []), (30, .laload, 1, 0, 0, 0, .null, []), (31, .invokestatic 62, 3, 3, 2, 335, .null, [(0, 337), (0, 336), (0, 84)])],
  [(34, .lstore_n 2, 1, 0, 0, 0, .null, []), (35, .iinc 4 1, 3, 0, 0, 0, .int 1, []), (38, .goto (-33), 3, 5, 0, 0, .null, []), (41, .lload_n 2, 1, 0, 0, 0, .null, []), (42, .lreturn, 1, 0, 0, 0, .null, [])]]
def ia_m_X1_lowest : ia_M := ("OffsetBook$Groups", ⟨"OffsetBook$Groups", "lowest", "(I)J"⟩, prog_3_method_7_code, 5, (some .long), 1, ia_k_X1_lowest, (334, 77, 332, 333), (1, 23))
def ia_k_X1_sizeOf : List (List ia_E) := [[(0, .iconst 0, 1, 0, 0, 0, .int 0, []), (1, .istore_n 2, 1, 0, 0, 0, .null, []), (2, .iconst 0, 1, 0, 0, 0, .int 0, []), (3, .istore_n 3, 1, 0, 0, 0, .null, []), (4, .iload_n 3, 1, 0, 0, 0, .null, []), (5, .bipush 41, 2, 0, 0, 0, .int 41, []), (7, .if_icmp .ge 22, 3, 29, 0, 0, .null, []), (10, .aload_n 0, 1, 0, 0, 0, .null, []), (11, .getfield 15, 3, 1, 1, 137, .null, []), (14, .iload_n 3, 1, 0, 0, 0, .null, []), (15, .iaload, 1, 0, 0, 0, .null, [])],
  [(16, .iload_n 1, 1, 0, 0, 0, .null, []), (17, .if_icmp .ne 6, 3, 23, 0, 0, .null, []), (20, .iinc 2 1, 3, 0, 0, 0, .int 1, []), (23, .iinc 3 1, 3, 0, 0, 0, .int 1, []), (26, .goto (-22), 3, 4, 0, 0, .null, []), (29, .iload_n 2, 1, 0, 0, 0, .null, []), (30, .ireturn, 1, 0, 0, 0, .null, [])]]
def ia_m_X1_sizeOf : ia_M := ("OffsetBook$Groups", ⟨"OffsetBook$Groups", "sizeOf", "(I)I"⟩, prog_3_method_8_code, 4, (some .int), 1, ia_k_X1_sizeOf, (467, 77, 465, 466), (0, 0))
def ia_k_X1_countAhead : List (List ia_E) := [[(0, .iconst 0, 1, 0, 0, 0, .int 0, []), (1, .istore_n 2, 1, 0, 0, 0, .null, []), (2, .iconst 0, 1, 0, 0, 0, .int 0, []), (3, .istore_n 3, 1, 0, 0, 0, .null, []), (4, .iload_n 3, 1, 0, 0, 0, .null, []), (5, .bipush 41, 2, 0, 0, 0, .int 41, []), (7, .if_icmp .ge 76, 3, 83, 0, 0, .null, []), (10, .aload_n 0, 1, 0, 0, 0, .null, []), (11, .getfield 18, 3, 1, 2, 138, .null, []), (14, .iload_n 3, 1, 0, 0, 0, .null, []), (15, .laload, 1, 0, 0, 0, .null, [])],
  [(16, .aload_n 0, 1, 0, 0, 0, .null, []), (17, .getfield 18, 3, 1, 2, 138, .null, []), (20, .iload_n 1, 1, 0, 0, 0, .null, []), (21, .laload, 1, 0, 0, 0, .null, []), (22, .lcmp, 1, 0, 0, 0, .null, []), (23, .ifCond .lt 24, 3, 47, 0, 0, .null, []), (26, .aload_n 0, 1, 0, 0, 0, .null, []), (27, .getfield 18, 3, 1, 2, 138, .null, []), (30, .iload_n 3, 1, 0, 0, 0, .null, []), (31, .laload, 1, 0, 0, 0, .null, [])],
  [(32, .aload_n 0, 1, 0, 0, 0, .null, []), (33, .getfield 18, 3, 1, 2, 138, .null, []), (36, .iload_n 1, 1, 0, 0, 0, .null, []), (37, .laload, 1, 0, 0, 0, .null, []), (38, .lcmp, 1, 0, 0, 0, .null, []), (39, .ifCond .ne 12, 3, 51, 0, 0, .null, []), (42, .iload_n 3, 1, 0, 0, 0, .null, []), (43, .iload_n 1, 1, 0, 0, 0, .null, []), (44, .if_icmp .ge 7, 3, 51, 0, 0, .null, []), (47, .iconst 1, 1, 0, 0, 0, .int 1, [])],
  [(48, .goto 4, 3, 52, 0, 0, .null, []), (51, .iconst 0, 1, 0, 0, 0, .int 0, []), (52, .istore 4, 2, 0, 0, 0, .null, []), (54, .aload_n 0, 1, 0, 0, 0, .null, []), (55, .getfield 15, 3, 1, 1, 137, .null, []), (58, .iload_n 3, 1, 0, 0, 0, .null, []), (59, .iaload, 1, 0, 0, 0, .null, []), (60, .aload_n 0, 1, 0, 0, 0, .null, []), (61, .getfield 15, 3, 1, 1, 137, .null, [])],
  [(64, .iload_n 1, 1, 0, 0, 0, .null, []), (65, .iaload, 1, 0, 0, 0, .null, []), (66, .if_icmp .ne 11, 3, 77, 0, 0, .null, []), (69, .iload 4, 2, 0, 0, 0, .null, []), (71, .ifCond .eq 6, 3, 77, 0, 0, .null, []), (74, .iinc 2 1, 3, 0, 0, 0, .int 1, []), (77, .iinc 3 1, 3, 0, 0, 0, .int 1, [])],
  [(80, .goto (-76), 3, 4, 0, 0, .null, []), (83, .iload_n 2, 1, 0, 0, 0, .null, []), (84, .ireturn, 1, 0, 0, 0, .null, [])]]
def ia_m_X1_countAhead : ia_M := ("OffsetBook$Groups", ⟨"OffsetBook$Groups", "countAhead", "(I)I"⟩, prog_3_method_9_code, 5, (some .int), 1, ia_k_X1_countAhead, (475, 77, 473, 474), (0, 0))
def ia_k_X1_meanOf : List (List ia_E) := [[(0, .dconst 0, 1, 0, 0, 0, .null, []), (1, .dstore_n 2, 1, 0, 0, 0, .null, []), (2, .iconst 0, 1, 0, 0, 0, .int 0, []), (3, .istore 4, 2, 0, 0, 0, .null, []), (5, .iconst 0, 1, 0, 0, 0, .int 0, []), (6, .istore 5, 2, 0, 0, 0, .null, []), (8, .iload 5, 2, 0, 0, 0, .null, []), (10, .bipush 41, 2, 0, 0, 0, .int 41, []), (12, .if_icmp .ge 34, 3, 46, 0, 0, .null, []), (15, .aload_n 0, 1, 0, 0, 0, .null, [])],
  [(16, .getfield 15, 3, 1, 1, 137, .null, []), (19, .iload 5, 2, 0, 0, 0, .null, []), (21, .iaload, 1, 0, 0, 0, .null, []), (22, .iload_n 1, 1, 0, 0, 0, .null, []), (23, .if_icmp .ne 17, 3, 40, 0, 0, .null, []), (26, .dload_n 2, 1, 0, 0, 0, .null, []), (27, .aload_n 0, 1, 0, 0, 0, .null, []), (28, .getfield 18, 3, 1, 2, 138, .null, []), (31, .iload 5, 2, 0, 0, 0, .null, [])],
  [(33, .laload, 1, 0, 0, 0, .null, []), (34, .l2d, 1, 0, 0, 0, .null, []), (35, .dadd, 1, 0, 0, 0, .null, []), (36, .dstore_n 2, 1, 0, 0, 0, .null, []), (37, .iinc 4 1, 3, 0, 0, 0, .int 1, []), (40, .iinc 5 1, 3, 0, 0, 0, .int 1, []), (43, .goto (-35), 3, 8, 0, 0, .null, []), (46, .iload 4, 2, 0, 0, 0, .null, [])],
  [(48, .ifCond .ne 7, 3, 55, 0, 0, .null, []), (51, .dconst 0, 1, 0, 0, 0, .null, []), (52, .goto 8, 3, 60, 0, 0, .null, []), (55, .dload_n 2, 1, 0, 0, 0, .null, []), (56, .iload 4, 2, 0, 0, 0, .null, []), (58, .i2d, 1, 0, 0, 0, .null, []), (59, .ddiv, 1, 0, 0, 0, .null, []), (60, .dreturn, 1, 0, 0, 0, .null, [])]]
def ia_m_X1_meanOf : ia_M := ("OffsetBook$Groups", ⟨"OffsetBook$Groups", "meanOf", "(I)D"⟩, prog_3_method_10_code, 6, (some .double), 1, ia_k_X1_meanOf, (489, 77, 487, 488), (0, 0))
def ia_k_X1_countTwos : List (List ia_E) := [[(0, .iconst 0, 1, 0, 0, 0, .int 0, []), (1, .istore_n 3, 1, 0, 0, 0, .null, []), (2, .iconst 0, 1, 0, 0, 0, .int 0, []), (3, .istore 4, 2, 0, 0, 0, .null, []), (5, .iload 4, 2, 0, 0, 0, .null, []), (7, .bipush 41, 2, 0, 0, 0, .int 41, []), (9, .if_icmp .ge 68, 3, 77, 0, 0, .null, []), (12, .iconst 0, 1, 0, 0, 0, .int 0, []), (13, .istore 5, 2, 0, 0, 0, .null, []), (15, .iload 5, 2, 0, 0, 0, .null, [])],
  [(17, .iload 4, 2, 0, 0, 0, .null, []), (19, .if_icmp .ge 52, 3, 71, 0, 0, .null, []), (22, .aload_n 0, 1, 0, 0, 0, .null, []), (23, .getfield 15, 3, 1, 1, 137, .null, []), (26, .iload 4, 2, 0, 0, 0, .null, []), (28, .iaload, 1, 0, 0, 0, .null, []), (29, .aload_n 0, 1, 0, 0, 0, .null, []), (30, .getfield 15, 3, 1, 1, 137, .null, [])],
  [(33, .iload 5, 2, 0, 0, 0, .null, []), (35, .iaload, 1, 0, 0, 0, .null, []), (36, .if_icmp .ne 29, 3, 65, 0, 0, .null, []), (39, .aload_n 0, 1, 0, 0, 0, .null, []), (40, .getfield 18, 3, 1, 2, 138, .null, []), (43, .iload 4, 2, 0, 0, 0, .null, []), (45, .laload, 1, 0, 0, 0, .null, []), (46, .aload_n 0, 1, 0, 0, 0, .null, []), (47, .getfield 18, 3, 1, 2, 138, .null, [])],
  [(50, .iload 5, 2, 0, 0, 0, .null, []), (52, .laload, 1, 0, 0, 0, .null, []), (53, .lsub, 1, 0, 0, 0, .null, []), (54, .invokestatic 70, 3, 4, 1, 506, .null, [(0, 508), (0, 507), (0, 84)]), (57, .lload_n 1, 1, 0, 0, 0, .null, []), (58, .lcmp, 1, 0, 0, 0, .null, []), (59, .ifCond .ne 6, 3, 65, 0, 0, .null, []), (62, .iinc 3 1, 3, 0, 0, 0, .int 1, [])],
  [(65, .iinc 5 1, 3, 0, 0, 0, .int 1, []), (68, .goto (-53), 3, 15, 0, 0, .null, []), (71, .iinc 4 1, 3, 0, 0, 0, .int 1, []), (74, .goto (-69), 3, 5, 0, 0, .null, []), (77, .iload_n 3, 1, 0, 0, 0, .null, []), (78, .ireturn, 1, 0, 0, 0, .null, [])]]
def ia_m_X1_countTwos : ia_M := ("OffsetBook$Groups", ⟨"OffsetBook$Groups", "countTwos", "(J)I"⟩, prog_3_method_11_code, 6, (some .int), 1, ia_k_X1_countTwos, (505, 77, 503, 504), (1, 23))
def ia_k_X1_countKnownTwos : List (List ia_E) := [[(0, .iconst 0, 1, 0, 0, 0, .int 0, []), (1, .istore_n 1, 1, 0, 0, 0, .null, []), (2, .iconst 0, 1, 0, 0, 0, .int 0, []), (3, .istore_n 2, 1, 0, 0, 0, .null, []), (4, .iload_n 2, 1, 0, 0, 0, .null, []), (5, .bipush 41, 2, 0, 0, 0, .int 41, []), (7, .if_icmp .ge 40, 3, 47, 0, 0, .null, []), (10, .iconst 0, 1, 0, 0, 0, .int 0, []), (11, .istore_n 3, 1, 0, 0, 0, .null, []), (12, .iload_n 3, 1, 0, 0, 0, .null, []), (13, .iload_n 2, 1, 0, 0, 0, .null, []), (14, .if_icmp .ge 27, 3, 41, 0, 0, .null, [])],
  [(17, .aload_n 0, 1, 0, 0, 0, .null, []), (18, .getfield 15, 3, 1, 1, 137, .null, []), (21, .iload_n 2, 1, 0, 0, 0, .null, []), (22, .iaload, 1, 0, 0, 0, .null, []), (23, .aload_n 0, 1, 0, 0, 0, .null, []), (24, .getfield 15, 3, 1, 1, 137, .null, []), (27, .iload_n 3, 1, 0, 0, 0, .null, []), (28, .iaload, 1, 0, 0, 0, .null, []), (29, .if_icmp .ne 6, 3, 35, 0, 0, .null, [])],
  [(32, .iinc 1 1, 3, 0, 0, 0, .int 1, []), (35, .iinc 3 1, 3, 0, 0, 0, .int 1, []), (38, .goto (-26), 3, 12, 0, 0, .null, []), (41, .iinc 2 1, 3, 0, 0, 0, .int 1, []), (44, .goto (-40), 3, 4, 0, 0, .null, []), (47, .iload_n 1, 1, 0, 0, 0, .null, [])],
  [(48, .ireturn, 1, 0, 0, 0, .null, [])]]
def ia_m_X1_countKnownTwos : ia_M := ("OffsetBook$Groups", ⟨"OffsetBook$Groups", "countKnownTwos", "()I"⟩, prog_3_method_12_code, 4, (some .int), 0, ia_k_X1_countKnownTwos, (594, 77, 592, 593), (0, 0))
def ia_k_X1_countGroups : List (List ia_E) := [[(0, .iconst 0, 1, 0, 0, 0, .int 0, []), (1, .istore_n 2, 1, 0, 0, 0, .null, []), (2, .iconst 0, 1, 0, 0, 0, .int 0, []), (3, .istore_n 3, 1, 0, 0, 0, .null, []), (4, .iload_n 3, 1, 0, 0, 0, .null, []), (5, .iload_n 1, 1, 0, 0, 0, .null, []), (6, .if_icmp .ge 28, 3, 34, 0, 0, .null, []), (9, .iload_n 3, 1, 0, 0, 0, .null, []), (10, .bipush 41, 2, 0, 0, 0, .int 41, []), (12, .if_icmp .ge 22, 3, 34, 0, 0, .null, []), (15, .aload_n 0, 1, 0, 0, 0, .null, [])],
  [(16, .getfield 15, 3, 1, 1, 137, .null, []), (19, .iload_n 3, 1, 0, 0, 0, .null, []), (20, .iaload, 1, 0, 0, 0, .null, []), (21, .iload_n 3, 1, 0, 0, 0, .null, []), (22, .if_icmp .ne 6, 3, 28, 0, 0, .null, []), (25, .iinc 2 1, 3, 0, 0, 0, .int 1, []), (28, .iinc 3 1, 3, 0, 0, 0, .int 1, []), (31, .goto (-27), 3, 4, 0, 0, .null, [])],
  [(34, .iload_n 2, 1, 0, 0, 0, .null, []), (35, .ireturn, 1, 0, 0, 0, .null, [])]]
def ia_m_X1_countGroups : ia_M := ("OffsetBook$Groups", ⟨"OffsetBook$Groups", "countGroups", "(I)I"⟩, prog_3_method_13_code, 4, (some .int), 1, ia_k_X1_countGroups, (590, 77, 588, 589), (0, 0))
def ia_k_X1_countOf : List (List ia_E) := [[(0, .iconst 0, 1, 0, 0, 0, .int 0, []), (1, .istore_n 3, 1, 0, 0, 0, .null, []), (2, .iconst 0, 1, 0, 0, 0, .int 0, []), (3, .istore 4, 2, 0, 0, 0, .null, []), (5, .iload 4, 2, 0, 0, 0, .null, []), (7, .iload_n 2, 1, 0, 0, 0, .null, []), (8, .if_icmp .ge 30, 3, 38, 0, 0, .null, []), (11, .iload 4, 2, 0, 0, 0, .null, []), (13, .bipush 120, 2, 0, 0, 0, .int 120, []), (15, .if_icmp .ge 23, 3, 38, 0, 0, .null, [])],
  [(18, .aload_n 0, 1, 0, 0, 0, .null, []), (19, .getfield 9, 3, 1, 0, 136, .null, []), (22, .iload 4, 2, 0, 0, 0, .null, []), (24, .iaload, 1, 0, 0, 0, .null, []), (25, .iload_n 1, 1, 0, 0, 0, .null, []), (26, .if_icmp .ne 6, 3, 32, 0, 0, .null, []), (29, .iinc 3 1, 3, 0, 0, 0, .int 1, [])],
  [(32, .iinc 4 1, 3, 0, 0, 0, .int 1, []), (35, .goto (-30), 3, 5, 0, 0, .null, []), (38, .iload_n 3, 1, 0, 0, 0, .null, []), (39, .ireturn, 1, 0, 0, 0, .null, [])]]
def ia_m_X1_countOf : ia_M := ("OffsetBook$Groups", ⟨"OffsetBook$Groups", "countOf", "(II)I"⟩, prog_3_method_14_code, 5, (some .int), 2, ia_k_X1_countOf, (374, 77, 372, 373), (0, 0))
def ia_k_X2_isRoom : List (List ia_E) := [[(0, .iload_n 0, 1, 0, 0, 0, .null, []), (1, .ifCond .lt 21, 3, 22, 0, 0, .null, []), (4, .iload_n 0, 1, 0, 0, 0, .null, []), (5, .iconst 2, 1, 0, 0, 0, .int 2, []), (6, .if_icmp .ge 16, 3, 22, 0, 0, .null, []), (9, .iload_n 1, 1, 0, 0, 0, .null, []), (10, .ifCond .lt 12, 3, 22, 0, 0, .null, []), (13, .iload_n 1, 1, 0, 0, 0, .null, []), (14, .iconst 4, 1, 0, 0, 0, .int 4, []), (15, .if_icmp .ge 7, 3, 22, 0, 0, .null, [])],
  [(18, .iconst 1, 1, 0, 0, 0, .int 1, []), (19, .goto 4, 3, 23, 0, 0, .null, []), (22, .iconst 0, 1, 0, 0, 0, .int 0, []), (23, .ireturn, 1, 1, 0, 0, .null, [])]]
def ia_m_X2_isRoom : ia_M := ("OffsetBook$Pins", ⟨"OffsetBook$Pins", "isRoom", "(II)Z"⟩, prog_4_method_2_code, 2, (some .boolean), 2, ia_k_X2_isRoom, (557, 81, 556, 0), (0, 0))
def ia_k_X2_put : List (List ia_E) := [[(0, .aload_n 0, 1, 0, 0, 0, .null, []), (1, .getfield 15, 3, 2, 1, 196, .null, []), (4, .iload_n 1, 1, 0, 0, 0, .null, []), (5, .iaload, 1, 0, 0, 0, .null, []), (6, .iconst (-1), 1, 0, 0, 0, .int (-1), []), (7, .if_icmp .eq 16, 3, 23, 0, 0, .null, []), (10, .aload_n 0, 1, 0, 0, 0, .null, []), (11, .getfield 15, 3, 2, 1, 196, .null, []), (14, .iload_n 1, 1, 0, 0, 0, .null, []), (15, .iaload, 1, 0, 0, 0, .null, [])],
  [(16, .iload 4, 2, 0, 0, 0, .null, []), (18, .if_icmp .eq 5, 3, 23, 0, 0, .null, []), (21, .iconst 0, 1, 0, 0, 0, .int 0, []), (22, .ireturn, 1, 1, 0, 0, .null, []), (23, .aload_n 0, 1, 0, 0, 0, .null, []), (24, .getfield 15, 3, 2, 1, 196, .null, []), (27, .iload_n 1, 1, 0, 0, 0, .null, []), (28, .iload 4, 2, 0, 0, 0, .null, []), (30, .iastore, 1, 0, 0, 0, .null, []), (31, .aload_n 0, 1, 0, 0, 0, .null, [])],
  [(32, .getfield 9, 3, 2, 0, 195, .null, []), (35, .iload_n 1, 1, 0, 0, 0, .null, []), (36, .iconst 4, 1, 0, 0, 0, .int 4, []), (37, .imul, 1, 0, 0, 0, .null, []), (38, .iload_n 2, 1, 0, 0, 0, .null, []), (39, .iadd, 1, 0, 0, 0, .null, []), (40, .iload_n 3, 1, 0, 0, 0, .null, []), (41, .iastore, 1, 0, 0, 0, .null, []), (42, .iconst 1, 1, 0, 0, 0, .int 1, []), (43, .ireturn, 1, 1, 0, 0, .null, [])]]
def ia_m_X2_put : ia_M := ("OffsetBook$Pins", ⟨"OffsetBook$Pins", "put", "(IIII)Z"⟩, prog_4_method_3_code, 5, (some .boolean), 4, ia_k_X2_put, (561, 81, 559, 560), (0, 0))
def ia_k_X2_at : List (List ia_E) := [[(0, .aload_n 0, 1, 0, 0, 0, .null, []), (1, .getfield 9, 3, 2, 0, 195, .null, []), (4, .iload_n 1, 1, 0, 0, 0, .null, []), (5, .iconst 4, 1, 0, 0, 0, .int 4, []), (6, .imul, 1, 0, 0, 0, .null, []), (7, .iload_n 2, 1, 0, 0, 0, .null, []), (8, .iadd, 1, 0, 0, 0, .null, []), (9, .iaload, 1, 0, 0, 0, .null, []), (10, .ireturn, 1, 0, 0, 0, .null, [])]]
def ia_m_X2_at : ia_M := ("OffsetBook$Pins", ⟨"OffsetBook$Pins", "at", "(II)I"⟩, prog_4_method_4_code, 3, (some .int), 2, ia_k_X2_at, (569, 81, 567, 568), (0, 0))
def ia_k_X3_readText : List (List ia_E) := [[(0, .aload_n 0, 1, 0, 0, 0, .null, []), (1, .aload_n 1, 1, 0, 0, 0, .null, []), (2, .invokevirtual 28, 3, 20, 1, 235, .ref 3, []), (5, .iconst 0, 1, 0, 0, 0, .int 0, []), (6, .istore_n 2, 1, 0, 0, 0, .null, []), (7, .iload_n 2, 1, 0, 0, 0, .null, []), (8, .bipush 12, 2, 0, 0, 0, .int 12, []), (10, .if_icmp .gt 50, 3, 60, 0, 0, .null, []), (13, .aload_n 0, 1, 0, 0, 0, .null, []), (14, .getfield 25, 3, 3, 3, 108, .null, [])],
  [(17, .ifCond .ne 43, 3, 60, 0, 0, .null, []), (20, .aload_n 0, 1, 0, 0, 0, .null, []), (21, .aload_n 1, 1, 0, 0, 0, .null, []), (22, .invokevirtual 32, 3, 24, 1, 238, .ref 3, []), (25, .aload_n 0, 1, 0, 0, 0, .null, []), (26, .getfield 25, 3, 3, 3, 108, .null, []), (29, .ifCond .ne 14, 3, 43, 0, 0, .null, [])],
  [(32, .aload_n 0, 1, 0, 0, 0, .null, []), (33, .getfield 12, 3, 3, 0, 105, .null, []), (36, .invokevirtual 35, 3, 30, 0, 279, .ref 4, []), (39, .iconst (-1), 1, 0, 0, 0, .int (-1), []), (40, .if_icmp .ne 8, 3, 48, 0, 0, .null, []), (43, .aload_n 0, 1, 0, 0, 0, .null, []), (44, .getfield 25, 3, 3, 3, 108, .null, []), (47, .ireturn, 1, 0, 0, 0, .null, [])],
  [(48, .aload_n 0, 1, 0, 0, 0, .null, []), (49, .bipush 59, 2, 0, 0, 0, .int 59, []), (51, .invokevirtual 39, 3, 22, 1, 276, .ref 3, []), (54, .iinc 2 1, 3, 0, 0, 0, .int 1, []), (57, .goto (-50), 3, 7, 0, 0, .null, []), (60, .aload_n 0, 1, 0, 0, 0, .null, []), (61, .getfield 25, 3, 3, 3, 108, .null, [])],
  [(64, .ireturn, 1, 0, 0, 0, .null, [])]]
def ia_m_X3_readText : ia_M := ("OffsetBook$Reader", ⟨"OffsetBook$Reader", "readText", "(LOffsetBook$Told;)I"⟩, prog_5_method_2_code, 3, (some .int), 1, ia_k_X3_readText, (234, 74, 232, 233), (5, 126))
def ia_k_X3_readLoneStatement : List (List ia_E) := [[(0, .aload_n 0, 1, 0, 0, 0, .null, []), (1, .aload_n 1, 1, 0, 0, 0, .null, []), (2, .invokevirtual 28, 3, 20, 1, 235, .ref 3, []), (5, .aload_n 0, 1, 0, 0, 0, .null, []), (6, .aload_n 1, 1, 0, 0, 0, .null, []), (7, .invokevirtual 32, 3, 24, 1, 238, .ref 3, []), (10, .aload_n 0, 1, 0, 0, 0, .null, []), (11, .getfield 12, 3, 3, 0, 105, .null, []), (14, .invokevirtual 35, 3, 30, 0, 279, .ref 4, [])],
  [(17, .iconst (-1), 1, 0, 0, 0, .int (-1), []), (18, .if_icmp .eq 15, 3, 33, 0, 0, .null, []), (21, .aload_n 0, 1, 0, 0, 0, .null, []), (22, .aload_n 0, 1, 0, 0, 0, .null, []), (23, .getfield 12, 3, 3, 0, 105, .null, []), (26, .getfield 43, 3, 4, 2, 2, .null, []), (29, .iconst 1, 1, 0, 0, 0, .int 1, []), (30, .invokevirtual 46, 3, 21, 2, 256, .ref 3, [])],
  [(33, .aload_n 0, 1, 0, 0, 0, .null, []), (34, .getfield 25, 3, 3, 3, 108, .null, []), (37, .ireturn, 1, 0, 0, 0, .null, [])]]
def ia_m_X3_readLoneStatement : ia_M := ("OffsetBook$Reader", ⟨"OffsetBook$Reader", "readLoneStatement", "(LOffsetBook$Told;)I"⟩, prog_5_method_3_code, 2, (some .int), 1, ia_k_X3_readLoneStatement, (359, 74, 357, 358), (5, 126))
def ia_k_X3_begin : List (List ia_E) := [[(0, .aload_n 0, 1, 0, 0, 0, .null, []), (1, .getfield 12, 3, 3, 0, 105, .null, []), (4, .iconst 0, 1, 0, 0, 0, .int 0, []), (5, .putfield 43, 3, 4, 2, 2, .null, []), (8, .aload_n 0, 1, 0, 0, 0, .null, []), (9, .aload_n 1, 1, 0, 0, 0, .null, []), (10, .getfield 50, 3, 5, 6, 20, .null, []), (13, .putfield 18, 3, 3, 1, 106, .null, [])],
  [(16, .aload_n 0, 1, 0, 0, 0, .null, []), (17, .aload_n 1, 1, 0, 0, 0, .null, []), (18, .getfield 53, 3, 5, 7, 25, .null, []), (21, .putfield 22, 3, 3, 2, 107, .null, []), (24, .aload_n 0, 1, 0, 0, 0, .null, []), (25, .iconst 0, 1, 0, 0, 0, .int 0, []), (26, .putfield 25, 3, 3, 3, 108, .null, []), (29, .return_, 1, 0, 0, 0, .null, [])]]
def ia_m_X3_begin : ia_M := ("OffsetBook$Reader", ⟨"OffsetBook$Reader", "begin", "(LOffsetBook$Told;)V"⟩, prog_5_method_4_code, 2, none, 1, ia_k_X3_begin, (237, 74, 236, 0), (0, 0))
def ia_k_X3_fail : List (List ia_E) := [[(0, .aload_n 0, 1, 0, 0, 0, .null, []), (1, .getfield 25, 3, 3, 3, 108, .null, []), (4, .ifCond .ne 13, 3, 17, 0, 0, .null, []), (7, .aload_n 0, 1, 0, 0, 0, .null, []), (8, .bipush 8, 2, 0, 0, 0, .int 8, []), (10, .iload_n 1, 1, 0, 0, 0, .null, []), (11, .imul, 1, 0, 0, 0, .null, []), (12, .iload_n 2, 1, 0, 0, 0, .null, []), (13, .iadd, 1, 0, 0, 0, .null, []), (14, .putfield 25, 3, 3, 3, 108, .null, [])],
  [(17, .return_, 1, 0, 0, 0, .null, [])]]
def ia_m_X3_fail : ia_M := ("OffsetBook$Reader", ⟨"OffsetBook$Reader", "fail", "(II)V"⟩, prog_5_method_5_code, 3, none, 2, ia_k_X3_fail, (258, 74, 257, 3), (0, 0))
def ia_k_X3_pass : List (List ia_E) := [[(0, .aload_n 0, 1, 0, 0, 0, .null, []), (1, .getfield 12, 3, 3, 0, 105, .null, []), (4, .invokevirtual 54, 3, 32, 0, 241, .ref 4, []), (7, .aload_n 0, 1, 0, 0, 0, .null, []), (8, .getfield 12, 3, 3, 0, 105, .null, []), (11, .invokevirtual 35, 3, 30, 0, 279, .ref 4, []), (14, .iload_n 1, 1, 0, 0, 0, .null, []), (15, .if_icmp .ne 19, 3, 34, 0, 0, .null, [])],
  [(18, .aload_n 0, 1, 0, 0, 0, .null, []), (19, .getfield 12, 3, 3, 0, 105, .null, []), (22, .dup, 1, 0, 0, 0, .null, []), (23, .getfield 43, 3, 4, 2, 2, .null, []), (26, .iconst 1, 1, 0, 0, 0, .int 1, []), (27, .iadd, 1, 0, 0, 0, .null, []), (28, .putfield 43, 3, 4, 2, 2, .null, []), (31, .goto 15, 3, 46, 0, 0, .null, [])],
  [(34, .aload_n 0, 1, 0, 0, 0, .null, []), (35, .aload_n 0, 1, 0, 0, 0, .null, []), (36, .getfield 12, 3, 3, 0, 105, .null, []), (39, .getfield 43, 3, 4, 2, 2, .null, []), (42, .iconst 1, 1, 0, 0, 0, .int 1, []), (43, .invokevirtual 46, 3, 21, 2, 256, .ref 3, []), (46, .return_, 1, 0, 0, 0, .null, [])]]
def ia_m_X3_pass : ia_M := ("OffsetBook$Reader", ⟨"OffsetBook$Reader", "pass", "(C)V"⟩, prog_5_method_6_code, 2, none, 1, ia_k_X3_pass, (278, 74, 277, 6), (1, 22))
def ia_k_X3_isFull : List (List ia_E) := [[(0, .aload_n 0, 1, 0, 0, 0, .null, []), (1, .getfield 22, 3, 3, 2, 107, .null, []), (4, .bipush 120, 2, 0, 0, 0, .int 120, []), (6, .if_icmp .ge 17, 3, 23, 0, 0, .null, []), (9, .aload_n 0, 1, 0, 0, 0, .null, []), (10, .getfield 22, 3, 3, 2, 107, .null, []), (13, .aload_n 1, 1, 0, 0, 0, .null, []), (14, .getfield 53, 3, 5, 7, 25, .null, [])],
  [(17, .isub, 1, 0, 0, 0, .null, []), (18, .bipush 12, 2, 0, 0, 0, .int 12, []), (20, .if_icmp .lt 7, 3, 27, 0, 0, .null, []), (23, .iconst 1, 1, 0, 0, 0, .int 1, []), (24, .goto 4, 3, 28, 0, 0, .null, []), (27, .iconst 0, 1, 0, 0, 0, .int 0, []), (28, .ireturn, 1, 1, 0, 0, .null, [])]]
def ia_m_X3_isFull : ia_M := ("OffsetBook$Reader", ⟨"OffsetBook$Reader", "isFull", "(LOffsetBook$Told;)Z"⟩, prog_5_method_7_code, 2, (some .boolean), 1, ia_k_X3_isFull, (275, 74, 274, 5), (0, 0))
def ia_k_X3_readStatement : List (List ia_E) := [[(0, .aload_n 0, 1, 0, 0, 0, .null, []), (1, .getfield 12, 3, 3, 0, 105, .null, []), (4, .invokevirtual 54, 3, 32, 0, 241, .ref 4, []), (7, .aload_n 0, 1, 0, 0, 0, .null, []), (8, .getfield 12, 3, 3, 0, 105, .null, []), (11, .getfield 43, 3, 4, 2, 2, .null, []), (14, .istore_n 2, 1, 0, 0, 0, .null, []), (15, .aload_n 0, 1, 0, 0, 0, .null, [])],
  [(16, .aload_n 1, 1, 0, 0, 0, .null, []), (17, .invokevirtual 57, 3, 28, 1, 245, .ref 3, []), (20, .istore_n 3, 1, 0, 0, 0, .null, []), (21, .aload_n 0, 1, 0, 0, 0, .null, []), (22, .aload_n 1, 1, 0, 0, 0, .null, []), (23, .invokevirtual 61, 3, 23, 1, 273, .ref 3, []), (26, .ifCond .eq 9, 3, 35, 0, 0, .null, []), (29, .aload_n 0, 1, 0, 0, 0, .null, []), (30, .iload_n 2, 1, 0, 0, 0, .null, []), (31, .iconst 5, 1, 0, 0, 0, .int 5, [])],
  [(32, .invokevirtual 46, 3, 21, 2, 256, .ref 3, []), (35, .aload_n 0, 1, 0, 0, 0, .null, []), (36, .getfield 25, 3, 3, 3, 108, .null, []), (39, .ifCond .ne 9, 3, 48, 0, 0, .null, []), (42, .aload_n 0, 1, 0, 0, 0, .null, []), (43, .bipush 61, 2, 0, 0, 0, .int 61, []), (45, .invokevirtual 39, 3, 22, 1, 276, .ref 3, [])],
  [(48, .aload_n 0, 1, 0, 0, 0, .null, []), (49, .getfield 25, 3, 3, 3, 108, .null, []), (52, .ifCond .ne 9, 3, 61, 0, 0, .null, []), (55, .aload_n 0, 1, 0, 0, 0, .null, []), (56, .aload_n 1, 1, 0, 0, 0, .null, []), (57, .iload_n 3, 1, 0, 0, 0, .null, []), (58, .invokevirtual 65, 3, 25, 2, 283, .ref 3, []), (61, .aload_n 0, 1, 0, 0, 0, .null, []), (62, .getfield 12, 3, 3, 0, 105, .null, [])],
  [(65, .invokevirtual 54, 3, 32, 0, 241, .ref 4, []), (68, .return_, 1, 0, 0, 0, .null, [])]]
def ia_m_X3_readStatement : ia_M := ("OffsetBook$Reader", ⟨"OffsetBook$Reader", "readStatement", "(LOffsetBook$Told;)V"⟩, prog_5_method_8_code, 4, none, 1, ia_k_X3_readStatement, (240, 74, 239, 1), (4, 103))
def ia_k_X3_readRightSide : List (List ia_E) := [[(0, .aload_n 0, 1, 0, 0, 0, .null, []), (1, .getfield 12, 3, 3, 0, 105, .null, []), (4, .invokevirtual 54, 3, 32, 0, 241, .ref 4, []), (7, .iconst 0, 1, 0, 0, 0, .int 0, []), (8, .istore_n 3, 1, 0, 0, 0, .null, []), (9, .aload_n 0, 1, 0, 0, 0, .null, []), (10, .getfield 12, 3, 3, 0, 105, .null, []), (13, .invokevirtual 69, 3, 31, 0, 286, .ref 4, [])],
  [(16, .ifCond .eq 37, 3, 53, 0, 0, .null, []), (19, .aload_n 0, 1, 0, 0, 0, .null, []), (20, .getfield 12, 3, 3, 0, 105, .null, []), (23, .getfield 43, 3, 4, 2, 2, .null, []), (26, .istore 4, 2, 0, 0, 0, .null, []), (28, .aload_n 0, 1, 0, 0, 0, .null, []), (29, .aload_n 1, 1, 0, 0, 0, .null, []), (30, .invokevirtual 57, 3, 28, 1, 245, .ref 3, [])],
  [(33, .istore_n 3, 1, 0, 0, 0, .null, []), (34, .iload_n 3, 1, 0, 0, 0, .null, []), (35, .iload_n 2, 1, 0, 0, 0, .null, []), (36, .if_icmp .ne 10, 3, 46, 0, 0, .null, []), (39, .aload_n 0, 1, 0, 0, 0, .null, []), (40, .iload 4, 2, 0, 0, 0, .null, []), (42, .iconst 4, 1, 0, 0, 0, .int 4, []), (43, .invokevirtual 46, 3, 21, 2, 256, .ref 3, []), (46, .aload_n 0, 1, 0, 0, 0, .null, []), (47, .getfield 12, 3, 3, 0, 105, .null, [])],
  [(50, .invokevirtual 54, 3, 32, 0, 241, .ref 4, []), (53, .aload_n 0, 1, 0, 0, 0, .null, []), (54, .iload_n 3, 1, 0, 0, 0, .null, []), (55, .ifCond .ne 7, 3, 62, 0, 0, .null, []), (58, .iconst 1, 1, 0, 0, 0, .int 1, []), (59, .goto 4, 3, 63, 0, 0, .null, []), (62, .iconst 0, 1, 0, 0, 0, .int 0, []), (63, .invokevirtual 73, 3, 26, 1, 287, .ref 3, [])],
  [(66, .lstore 4, 2, 0, 0, 0, .null, []), (68, .aload_n 0, 1, 0, 0, 0, .null, []), (69, .getfield 25, 3, 3, 3, 108, .null, []), (72, .ifCond .ne 25, 3, 97, 0, 0, .null, []), (75, .aload_n 1, 1, 0, 0, 0, .null, []), (76, .aload_n 0, 1, 0, 0, 0, .null, []), (77, .getfield 22, 3, 3, 2, 107, .null, [])],
  [(80, .iload_n 2, 1, 0, 0, 0, .null, []), (81, .iload_n 3, 1, 0, 0, 0, .null, []), (82, .lload 4, 2, 0, 0, 0, .null, []), (84, .invokevirtual 77, 3, 39, 4, 302, .ref 5, []), (87, .aload_n 0, 1, 0, 0, 0, .null, []), (88, .dup, 1, 0, 0, 0, .null, []), (89, .getfield 22, 3, 3, 2, 107, .null, []), (92, .iconst 1, 1, 0, 0, 0, .int 1, []), (93, .iadd, 1, 0, 0, 0, .null, []), (94, .putfield 22, 3, 3, 2, 107, .null, [])],
  [(97, .return_, 1, 0, 0, 0, .null, [])]]
def ia_m_X3_readRightSide : ia_M := ("OffsetBook$Reader", ⟨"OffsetBook$Reader", "readRightSide", "(LOffsetBook$Told;I)V"⟩, prog_5_method_9_code, 6, none, 2, ia_k_X3_readRightSide, (285, 74, 284, 7), (3, 78))
def ia_k_X3_readAmount : List (List ia_E) := [[(0, .aload_n 0, 1, 0, 0, 0, .null, []), (1, .getfield 12, 3, 3, 0, 105, .null, []), (4, .invokevirtual 35, 3, 30, 0, 279, .ref 4, []), (7, .istore_n 2, 1, 0, 0, 0, .null, []), (8, .iload_n 2, 1, 0, 0, 0, .null, []), (9, .bipush 45, 2, 0, 0, 0, .int 45, []), (11, .if_icmp .eq 13, 3, 24, 0, 0, .null, []), (14, .iload_n 2, 1, 0, 0, 0, .null, []), (15, .bipush 43, 2, 0, 0, 0, .int 43, [])],
  [(17, .if_icmp .ne 11, 3, 28, 0, 0, .null, []), (20, .iload_n 1, 1, 0, 0, 0, .null, []), (21, .ifCond .ne 7, 3, 28, 0, 0, .null, []), (24, .iconst 1, 1, 0, 0, 0, .int 1, []), (25, .goto 4, 3, 29, 0, 0, .null, []), (28, .iconst 0, 1, 0, 0, 0, .int 0, []), (29, .istore_n 3, 1, 0, 0, 0, .null, []), (30, .iload_n 3, 1, 0, 0, 0, .null, []), (31, .ifCond .ne 9, 3, 40, 0, 0, .null, [])],
  [(34, .iload_n 1, 1, 0, 0, 0, .null, []), (35, .ifCond .ne 5, 3, 40, 0, 0, .null, []), (38, .lconst 0, 1, 0, 0, 0, .long 0, []), (39, .lreturn, 1, 0, 0, 0, .null, []), (40, .iload_n 3, 1, 0, 0, 0, .null, []), (41, .ifCond .eq 16, 3, 57, 0, 0, .null, []), (44, .aload_n 0, 1, 0, 0, 0, .null, []), (45, .getfield 12, 3, 3, 0, 105, .null, [])],
  [(48, .dup, 1, 0, 0, 0, .null, []), (49, .getfield 43, 3, 4, 2, 2, .null, []), (52, .iconst 1, 1, 0, 0, 0, .int 1, []), (53, .iadd, 1, 0, 0, 0, .null, []), (54, .putfield 43, 3, 4, 2, 2, .null, []), (57, .aload_n 0, 1, 0, 0, 0, .null, []), (58, .invokevirtual 81, 3, 27, 0, 290, .ref 3, []), (61, .lstore 4, 2, 0, 0, 0, .null, []), (63, .iload_n 2, 1, 0, 0, 0, .null, [])],
  [(64, .bipush 45, 2, 0, 0, 0, .int 45, []), (66, .if_icmp .ne 9, 3, 75, 0, 0, .null, []), (69, .lload 4, 2, 0, 0, 0, .null, []), (71, .lneg, 1, 0, 0, 0, .null, []), (72, .goto 5, 3, 77, 0, 0, .null, []), (75, .lload 4, 2, 0, 0, 0, .null, []), (77, .lreturn, 1, 0, 0, 0, .null, [])]]
def ia_m_X3_readAmount : ia_M := ("OffsetBook$Reader", ⟨"OffsetBook$Reader", "readAmount", "(Z)J"⟩, prog_5_method_10_code, 6, (some .long), 1, ia_k_X3_readAmount, (289, 74, 288, 8), (2, 47))
def ia_k_X3_readNumber : List (List ia_E) := [[(0, .aload_n 0, 1, 0, 0, 0, .null, []), (1, .getfield 12, 3, 3, 0, 105, .null, []), (4, .invokevirtual 54, 3, 32, 0, 241, .ref 4, []), (7, .aload_n 0, 1, 0, 0, 0, .null, []), (8, .getfield 12, 3, 3, 0, 105, .null, []), (11, .getfield 43, 3, 4, 2, 2, .null, []), (14, .istore_n 1, 1, 0, 0, 0, .null, []), (15, .aload_n 0, 1, 0, 0, 0, .null, [])],
  [(16, .getfield 12, 3, 3, 0, 105, .null, []), (19, .invokevirtual 85, 3, 34, 0, 293, .ref 4, []), (22, .istore_n 2, 1, 0, 0, 0, .null, []), (23, .iload_n 2, 1, 0, 0, 0, .null, []), (24, .ifCond .ne 11, 3, 35, 0, 0, .null, []), (27, .aload_n 0, 1, 0, 0, 0, .null, []), (28, .iload_n 1, 1, 0, 0, 0, .null, []), (29, .iconst 1, 1, 0, 0, 0, .int 1, []), (30, .invokevirtual 46, 3, 21, 2, 256, .ref 3, [])],
  [(33, .lconst 0, 1, 0, 0, 0, .long 0, []), (34, .lreturn, 1, 0, 0, 0, .null, []), (35, .iload_n 2, 1, 0, 0, 0, .null, []), (36, .bipush 18, 2, 0, 0, 0, .int 18, []), (38, .if_icmp .le 11, 3, 49, 0, 0, .null, []), (41, .aload_n 0, 1, 0, 0, 0, .null, []), (42, .iload_n 1, 1, 0, 0, 0, .null, []), (43, .iconst 2, 1, 0, 0, 0, .int 2, []), (44, .invokevirtual 46, 3, 21, 2, 256, .ref 3, []), (47, .lconst 0, 1, 0, 0, 0, .long 0, [])],
  [(48, .lreturn, 1, 0, 0, 0, .null, []), (49, .aload_n 0, 1, 0, 0, 0, .null, []), (50, .getfield 12, 3, 3, 0, 105, .null, []), (53, .iload_n 1, 1, 0, 0, 0, .null, []), (54, .iload_n 2, 1, 0, 0, 0, .null, []), (55, .invokevirtual 88, 3, 35, 2, 297, .ref 4, []), (58, .lreturn, 1, 0, 0, 0, .null, [])]]
def ia_m_X3_readNumber : ia_M := ("OffsetBook$Reader", ⟨"OffsetBook$Reader", "readNumber", "()J"⟩, prog_5_method_11_code, 3, (some .long), 0, ia_k_X3_readNumber, (292, 74, 291, 9), (1, 25))
def ia_k_X3_readName : List (List ia_E) := [[(0, .aload_n 0, 1, 0, 0, 0, .null, []), (1, .getfield 12, 3, 3, 0, 105, .null, []), (4, .getfield 43, 3, 4, 2, 2, .null, []), (7, .istore_n 2, 1, 0, 0, 0, .null, []), (8, .aload_n 0, 1, 0, 0, 0, .null, []), (9, .getfield 12, 3, 3, 0, 105, .null, []), (12, .invokevirtual 92, 3, 33, 0, 248, .ref 4, []), (15, .istore_n 3, 1, 0, 0, 0, .null, [])],
  [(16, .iload_n 3, 1, 0, 0, 0, .null, []), (17, .ifCond .ne 11, 3, 28, 0, 0, .null, []), (20, .aload_n 0, 1, 0, 0, 0, .null, []), (21, .iload_n 2, 1, 0, 0, 0, .null, []), (22, .iconst 1, 1, 0, 0, 0, .int 1, []), (23, .invokevirtual 46, 3, 21, 2, 256, .ref 3, []), (26, .iconst (-1), 1, 0, 0, 0, .int (-1), []), (27, .ireturn, 1, 0, 0, 0, .null, []), (28, .iload_n 3, 1, 0, 0, 0, .null, []), (29, .bipush 6, 2, 0, 0, 0, .int 6, []), (31, .if_icmp .le 11, 3, 42, 0, 0, .null, [])],
  [(34, .aload_n 0, 1, 0, 0, 0, .null, []), (35, .iload_n 2, 1, 0, 0, 0, .null, []), (36, .iconst 2, 1, 0, 0, 0, .int 2, []), (37, .invokevirtual 46, 3, 21, 2, 256, .ref 3, []), (40, .iconst (-1), 1, 0, 0, 0, .int (-1), []), (41, .ireturn, 1, 0, 0, 0, .null, []), (42, .aload_n 1, 1, 0, 0, 0, .null, []), (43, .aload_n 0, 1, 0, 0, 0, .null, []), (44, .getfield 12, 3, 3, 0, 105, .null, []), (47, .iload_n 2, 1, 0, 0, 0, .null, [])],
  [(48, .iload_n 3, 1, 0, 0, 0, .null, []), (49, .aload_n 0, 1, 0, 0, 0, .null, []), (50, .getfield 18, 3, 3, 1, 106, .null, []), (53, .invokevirtual 95, 3, 36, 4, 259, .ref 5, []), (56, .istore 4, 2, 0, 0, 0, .null, []), (58, .iload 4, 2, 0, 0, 0, .null, []), (60, .iconst (-1), 1, 0, 0, 0, .int (-1), []), (61, .if_icmp .eq 6, 3, 67, 0, 0, .null, [])],
  [(64, .iload 4, 2, 0, 0, 0, .null, []), (66, .ireturn, 1, 0, 0, 0, .null, []), (67, .aload_n 0, 1, 0, 0, 0, .null, []), (68, .getfield 18, 3, 3, 1, 106, .null, []), (71, .bipush 41, 2, 0, 0, 0, .int 41, []), (73, .if_icmp .lt 11, 3, 84, 0, 0, .null, []), (76, .aload_n 0, 1, 0, 0, 0, .null, []), (77, .iload_n 2, 1, 0, 0, 0, .null, []), (78, .iconst 3, 1, 0, 0, 0, .int 3, []), (79, .invokevirtual 46, 3, 21, 2, 256, .ref 3, [])],
  [(82, .iconst (-1), 1, 0, 0, 0, .int (-1), []), (83, .ireturn, 1, 0, 0, 0, .null, []), (84, .aload_n 1, 1, 0, 0, 0, .null, []), (85, .aload_n 0, 1, 0, 0, 0, .null, []), (86, .getfield 18, 3, 3, 1, 106, .null, []), (89, .aload_n 0, 1, 0, 0, 0, .null, []), (90, .getfield 12, 3, 3, 0, 105, .null, []), (93, .iload_n 2, 1, 0, 0, 0, .null, []), (94, .iload_n 3, 1, 0, 0, 0, .null, []), (95, .invokevirtual 99, 3, 38, 4, 266, .ref 5, [])],
  [(98, .aload_n 0, 1, 0, 0, 0, .null, []), (99, .dup, 1, 0, 0, 0, .null, []), (100, .getfield 18, 3, 3, 1, 106, .null, []), (103, .iconst 1, 1, 0, 0, 0, .int 1, []), (104, .iadd, 1, 0, 0, 0, .null, []), (105, .putfield 18, 3, 3, 1, 106, .null, []), (108, .aload_n 0, 1, 0, 0, 0, .null, []), (109, .getfield 18, 3, 3, 1, 106, .null, [])],
  [(112, .iconst 1, 1, 0, 0, 0, .int 1, []), (113, .isub, 1, 0, 0, 0, .null, []), (114, .ireturn, 1, 0, 0, 0, .null, [])]]
def ia_m_X3_readName : ia_M := ("OffsetBook$Reader", ⟨"OffsetBook$Reader", "readName", "(LOffsetBook$Told;)I"⟩, prog_5_method_12_code, 5, (some .int), 1, ia_k_X3_readName, (247, 74, 246, 2), (2, 54))
def ia_k_X4_append : List (List ia_E) := [[(0, .bipush 24, 2, 0, 0, 0, .int 24, []), (2, .istore_n 2, 1, 0, 0, 0, .null, []), (3, .iload_n 2, 1, 0, 0, 0, .null, []), (4, .ifCond .lt 42, 3, 46, 0, 0, .null, []), (7, .aload_n 0, 1, 0, 0, 0, .null, []), (8, .getfield 15, 3, 4, 1, 100, .null, []), (11, .sipush 300, 3, 0, 0, 0, .int 300, []), (14, .if_icmp .ge 32, 3, 46, 0, 0, .null, [])],
  [(17, .aload_n 0, 1, 0, 0, 0, .null, []), (18, .getfield 9, 3, 4, 0, 99, .null, []), (21, .aload_n 0, 1, 0, 0, 0, .null, []), (22, .getfield 15, 3, 4, 1, 100, .null, []), (25, .iload_n 1, 1, 0, 0, 0, .null, []), (26, .iload_n 2, 1, 0, 0, 0, .null, []), (27, .ishr, 1, 0, 0, 0, .null, []), (28, .i2b, 1, 0, 0, 0, .null, []), (29, .bastore, 1, 0, 0, 0, .null, []), (30, .aload_n 0, 1, 0, 0, 0, .null, []), (31, .dup, 1, 0, 0, 0, .null, [])],
  [(32, .getfield 15, 3, 4, 1, 100, .null, []), (35, .iconst 1, 1, 0, 0, 0, .int 1, []), (36, .iadd, 1, 0, 0, 0, .null, []), (37, .putfield 15, 3, 4, 1, 100, .null, []), (40, .iinc 2 (-8), 3, 0, 0, 0, .int (-8), []), (43, .goto (-40), 3, 3, 0, 0, .null, []), (46, .return_, 1, 0, 0, 0, .null, [])]]
def ia_m_X4_append : ia_M := ("OffsetBook$Tape", ⟨"OffsetBook$Tape", "append", "(I)V"⟩, prog_6_method_2_code, 3, none, 1, ia_k_X4_append, (222, 75, 220, 221), (0, 0))
def ia_k_X4_here : List (List ia_E) := [[(0, .aload_n 0, 1, 0, 0, 0, .null, []), (1, .getfield 19, 3, 4, 2, 101, .null, []), (4, .aload_n 0, 1, 0, 0, 0, .null, []), (5, .getfield 15, 3, 4, 1, 100, .null, []), (8, .if_icmp .ge 19, 3, 27, 0, 0, .null, []), (11, .aload_n 0, 1, 0, 0, 0, .null, []), (12, .getfield 9, 3, 4, 0, 99, .null, []), (15, .aload_n 0, 1, 0, 0, 0, .null, [])],
  [(16, .getfield 19, 3, 4, 2, 101, .null, []), (19, .baload, 1, 0, 0, 0, .null, []), (20, .sipush 255, 3, 0, 0, 0, .int 255, []), (23, .iand, 1, 0, 0, 0, .null, []), (24, .goto 4, 3, 28, 0, 0, .null, []), (27, .iconst (-1), 1, 0, 0, 0, .int (-1), []), (28, .ireturn, 1, 0, 0, 0, .null, [])]]
def ia_m_X4_here : ia_M := ("OffsetBook$Tape", ⟨"OffsetBook$Tape", "here", "()I"⟩, prog_6_method_3_code, 1, (some .int), 0, ia_k_X4_here, (282, 75, 280, 281), (0, 0))
def ia_k_X4_isLetterHere : List (List ia_E) := [[(0, .aload_n 0, 1, 0, 0, 0, .null, []), (1, .getfield 19, 3, 4, 2, 101, .null, []), (4, .aload_n 0, 1, 0, 0, 0, .null, []), (5, .getfield 15, 3, 4, 1, 100, .null, []), (8, .if_icmp .ge 35, 3, 43, 0, 0, .null, []), (11, .aload_n 0, 1, 0, 0, 0, .null, []), (12, .getfield 9, 3, 4, 0, 99, .null, []), (15, .aload_n 0, 1, 0, 0, 0, .null, [])],
  [(16, .getfield 19, 3, 4, 2, 101, .null, []), (19, .baload, 1, 0, 0, 0, .null, []), (20, .bipush 97, 2, 0, 0, 0, .int 97, []), (22, .if_icmp .lt 21, 3, 43, 0, 0, .null, []), (25, .aload_n 0, 1, 0, 0, 0, .null, []), (26, .getfield 9, 3, 4, 0, 99, .null, []), (29, .aload_n 0, 1, 0, 0, 0, .null, []), (30, .getfield 19, 3, 4, 2, 101, .null, [])],
  [(33, .baload, 1, 0, 0, 0, .null, []), (34, .bipush 122, 2, 0, 0, 0, .int 122, []), (36, .if_icmp .gt 7, 3, 43, 0, 0, .null, []), (39, .iconst 1, 1, 0, 0, 0, .int 1, []), (40, .goto 4, 3, 44, 0, 0, .null, []), (43, .iconst 0, 1, 0, 0, 0, .int 0, []), (44, .ireturn, 1, 1, 0, 0, .null, [])]]
def ia_m_X4_isLetterHere : ia_M := ("OffsetBook$Tape", ⟨"OffsetBook$Tape", "isLetterHere", "()Z"⟩, prog_6_method_4_code, 1, (some .boolean), 0, ia_k_X4_isLetterHere, (255, 75, 253, 254), (0, 0))
def ia_k_X4_passBlanks : List (List ia_E) := [[(0, .aload_n 0, 1, 0, 0, 0, .null, []), (1, .getfield 19, 3, 4, 2, 101, .null, []), (4, .aload_n 0, 1, 0, 0, 0, .null, []), (5, .getfield 15, 3, 4, 1, 100, .null, []), (8, .if_icmp .ge 30, 3, 38, 0, 0, .null, []), (11, .aload_n 0, 1, 0, 0, 0, .null, []), (12, .getfield 9, 3, 4, 0, 99, .null, []), (15, .aload_n 0, 1, 0, 0, 0, .null, [])],
  [(16, .getfield 19, 3, 4, 2, 101, .null, []), (19, .baload, 1, 0, 0, 0, .null, []), (20, .bipush 32, 2, 0, 0, 0, .int 32, []), (22, .if_icmp .ne 16, 3, 38, 0, 0, .null, []), (25, .aload_n 0, 1, 0, 0, 0, .null, []), (26, .dup, 1, 0, 0, 0, .null, []), (27, .getfield 19, 3, 4, 2, 101, .null, []), (30, .iconst 1, 1, 0, 0, 0, .int 1, []), (31, .iadd, 1, 0, 0, 0, .null, [])],
  [(32, .putfield 19, 3, 4, 2, 101, .null, []), (35, .goto (-35), 3, 0, 0, 0, .null, []), (38, .return_, 1, 0, 0, 0, .null, [])]]
def ia_m_X4_passBlanks : ia_M := ("OffsetBook$Tape", ⟨"OffsetBook$Tape", "passBlanks", "()V"⟩, prog_6_method_5_code, 1, none, 0, ia_k_X4_passBlanks, (244, 75, 242, 243), (0, 0))
def ia_k_X4_passLetters : List (List ia_E) := [[(0, .aload_n 0, 1, 0, 0, 0, .null, []), (1, .getfield 19, 3, 4, 2, 101, .null, []), (4, .istore_n 1, 1, 0, 0, 0, .null, []), (5, .aload_n 0, 1, 0, 0, 0, .null, []), (6, .getfield 19, 3, 4, 2, 101, .null, []), (9, .aload_n 0, 1, 0, 0, 0, .null, []), (10, .getfield 15, 3, 4, 1, 100, .null, []), (13, .if_icmp .ge 23, 3, 36, 0, 0, .null, [])],
  [(16, .aload_n 0, 1, 0, 0, 0, .null, []), (17, .invokevirtual 22, 3, 31, 0, 252, .ref 4, []), (20, .ifCond .eq 16, 3, 36, 0, 0, .null, []), (23, .aload_n 0, 1, 0, 0, 0, .null, []), (24, .dup, 1, 0, 0, 0, .null, []), (25, .getfield 19, 3, 4, 2, 101, .null, []), (28, .iconst 1, 1, 0, 0, 0, .int 1, []), (29, .iadd, 1, 0, 0, 0, .null, []), (30, .putfield 19, 3, 4, 2, 101, .null, [])],
  [(33, .goto (-28), 3, 5, 0, 0, .null, []), (36, .aload_n 0, 1, 0, 0, 0, .null, []), (37, .getfield 19, 3, 4, 2, 101, .null, []), (40, .iload_n 1, 1, 0, 0, 0, .null, []), (41, .isub, 1, 0, 0, 0, .null, []), (42, .ireturn, 1, 0, 0, 0, .null, [])]]
def ia_m_X4_passLetters : ia_M := ("OffsetBook$Tape", ⟨"OffsetBook$Tape", "passLetters", "()I"⟩, prog_6_method_6_code, 2, (some .int), 0, ia_k_X4_passLetters, (251, 75, 249, 250), (1, 20))
def ia_k_X4_passDigits : List (List ia_E) := [[(0, .aload_n 0, 1, 0, 0, 0, .null, []), (1, .getfield 19, 3, 4, 2, 101, .null, []), (4, .istore_n 1, 1, 0, 0, 0, .null, []), (5, .aload_n 0, 1, 0, 0, 0, .null, []), (6, .getfield 19, 3, 4, 2, 101, .null, []), (9, .aload_n 0, 1, 0, 0, 0, .null, []), (10, .getfield 15, 3, 4, 1, 100, .null, []), (13, .if_icmp .ge 44, 3, 57, 0, 0, .null, [])],
  [(16, .aload_n 0, 1, 0, 0, 0, .null, []), (17, .getfield 9, 3, 4, 0, 99, .null, []), (20, .aload_n 0, 1, 0, 0, 0, .null, []), (21, .getfield 19, 3, 4, 2, 101, .null, []), (24, .baload, 1, 0, 0, 0, .null, []), (25, .bipush 48, 2, 0, 0, 0, .int 48, []), (27, .if_icmp .lt 30, 3, 57, 0, 0, .null, []), (30, .aload_n 0, 1, 0, 0, 0, .null, []), (31, .getfield 9, 3, 4, 0, 99, .null, [])],
  [(34, .aload_n 0, 1, 0, 0, 0, .null, []), (35, .getfield 19, 3, 4, 2, 101, .null, []), (38, .baload, 1, 0, 0, 0, .null, []), (39, .bipush 57, 2, 0, 0, 0, .int 57, []), (41, .if_icmp .gt 16, 3, 57, 0, 0, .null, []), (44, .aload_n 0, 1, 0, 0, 0, .null, []), (45, .dup, 1, 0, 0, 0, .null, []), (46, .getfield 19, 3, 4, 2, 101, .null, [])],
  [(49, .iconst 1, 1, 0, 0, 0, .int 1, []), (50, .iadd, 1, 0, 0, 0, .null, []), (51, .putfield 19, 3, 4, 2, 101, .null, []), (54, .goto (-49), 3, 5, 0, 0, .null, []), (57, .aload_n 0, 1, 0, 0, 0, .null, []), (58, .getfield 19, 3, 4, 2, 101, .null, []), (61, .iload_n 1, 1, 0, 0, 0, .null, []), (62, .isub, 1, 0, 0, 0, .null, []), (63, .ireturn, 1, 0, 0, 0, .null, [])]]
def ia_m_X4_passDigits : ia_M := ("OffsetBook$Tape", ⟨"OffsetBook$Tape", "passDigits", "()I"⟩, prog_6_method_7_code, 2, (some .int), 0, ia_k_X4_passDigits, (296, 75, 294, 295), (0, 0))
def ia_k_X4_numberAt : List (List ia_E) := [[(0, .lconst 0, 1, 0, 0, 0, .long 0, []), (1, .lstore_n 3, 1, 0, 0, 0, .null, []), (2, .iload_n 1, 1, 0, 0, 0, .null, []), (3, .istore 5, 2, 0, 0, 0, .null, []), (5, .iload 5, 2, 0, 0, 0, .null, []), (7, .iload_n 1, 1, 0, 0, 0, .null, []), (8, .iload_n 2, 1, 0, 0, 0, .null, []), (9, .iadd, 1, 0, 0, 0, .null, []), (10, .if_icmp .ge 36, 3, 46, 0, 0, .null, []), (13, .iload 5, 2, 0, 0, 0, .null, []), (15, .aload_n 0, 1, 0, 0, 0, .null, [])],
  [(16, .getfield 15, 3, 4, 1, 100, .null, []), (19, .if_icmp .ge 27, 3, 46, 0, 0, .null, []), (22, .lload_n 3, 1, 0, 0, 0, .null, []), (23, .ldc2_w 26, 3, 0, 0, 301, .long 10, []), (26, .lmul, 1, 0, 0, 0, .null, []), (27, .aload_n 0, 1, 0, 0, 0, .null, []), (28, .getfield 9, 3, 4, 0, 99, .null, []), (31, .iload 5, 2, 0, 0, 0, .null, [])],
  [(33, .baload, 1, 0, 0, 0, .null, []), (34, .bipush 48, 2, 0, 0, 0, .int 48, []), (36, .isub, 1, 0, 0, 0, .null, []), (37, .i2l, 1, 0, 0, 0, .null, []), (38, .ladd, 1, 0, 0, 0, .null, []), (39, .lstore_n 3, 1, 0, 0, 0, .null, []), (40, .iinc 5 1, 3, 0, 0, 0, .int 1, []), (43, .goto (-38), 3, 5, 0, 0, .null, []), (46, .lload_n 3, 1, 0, 0, 0, .null, []), (47, .lreturn, 1, 0, 0, 0, .null, [])]]
def ia_m_X4_numberAt : ia_M := ("OffsetBook$Tape", ⟨"OffsetBook$Tape", "numberAt", "(II)J"⟩, prog_6_method_8_code, 6, (some .long), 2, ia_k_X4_numberAt, (300, 75, 298, 299), (0, 0))
def ia_k_X5_find : List (List ia_E) := [[(0, .iconst 1, 1, 0, 0, 0, .int 1, []), (1, .istore 5, 2, 0, 0, 0, .null, []), (3, .iload 5, 2, 0, 0, 0, .null, []), (5, .iload 4, 2, 0, 0, 0, .null, []), (7, .if_icmp .ge 34, 3, 41, 0, 0, .null, []), (10, .aload_n 0, 1, 0, 0, 0, .null, []), (11, .getfield 15, 3, 5, 1, 117, .null, []), (14, .iload 5, 2, 0, 0, 0, .null, [])],
  [(16, .iaload, 1, 0, 0, 0, .null, []), (17, .iload_n 3, 1, 0, 0, 0, .null, []), (18, .if_icmp .ne 17, 3, 35, 0, 0, .null, []), (21, .aload_n 0, 1, 0, 0, 0, .null, []), (22, .iload 5, 2, 0, 0, 0, .null, []), (24, .aload_n 1, 1, 0, 0, 0, .null, []), (25, .iload_n 2, 1, 0, 0, 0, .null, []), (26, .invokevirtual 40, 3, 37, 3, 263, .ref 5, []), (29, .ifCond .eq 6, 3, 35, 0, 0, .null, [])],
  [(32, .iload 5, 2, 0, 0, 0, .null, []), (34, .ireturn, 1, 0, 0, 0, .null, []), (35, .iinc 5 1, 3, 0, 0, 0, .int 1, []), (38, .goto (-35), 3, 3, 0, 0, .null, []), (41, .iconst (-1), 1, 0, 0, 0, .int (-1), []), (42, .ireturn, 1, 0, 0, 0, .null, [])]]
def ia_m_X5_find : ia_M := ("OffsetBook$Told", ⟨"OffsetBook$Told", "find", "(LOffsetBook$Tape;III)I"⟩, prog_7_method_2_code, 6, (some .int), 4, ia_k_X5_find, (262, 76, 260, 261), (1, 24))
def ia_k_X5_isNameAt : List (List ia_E) := [[(0, .iconst 0, 1, 0, 0, 0, .int 0, []), (1, .istore 4, 2, 0, 0, 0, .null, []), (3, .iload 4, 2, 0, 0, 0, .null, []), (5, .aload_n 0, 1, 0, 0, 0, .null, []), (6, .getfield 15, 3, 5, 1, 117, .null, []), (9, .iload_n 1, 1, 0, 0, 0, .null, []), (10, .iaload, 1, 0, 0, 0, .null, []), (11, .if_icmp .ge 35, 3, 46, 0, 0, .null, []), (14, .aload_n 0, 1, 0, 0, 0, .null, []), (15, .getfield 9, 3, 5, 0, 116, .null, [])],
  [(18, .iload_n 1, 1, 0, 0, 0, .null, []), (19, .bipush 6, 2, 0, 0, 0, .int 6, []), (21, .imul, 1, 0, 0, 0, .null, []), (22, .iload 4, 2, 0, 0, 0, .null, []), (24, .iadd, 1, 0, 0, 0, .null, []), (25, .baload, 1, 0, 0, 0, .null, []), (26, .aload_n 2, 1, 0, 0, 0, .null, []), (27, .getfield 44, 3, 4, 0, 0, .null, []), (30, .iload_n 3, 1, 0, 0, 0, .null, []), (31, .iload 4, 2, 0, 0, 0, .null, [])],
  [(33, .iadd, 1, 0, 0, 0, .null, []), (34, .baload, 1, 0, 0, 0, .null, []), (35, .if_icmp .eq 5, 3, 40, 0, 0, .null, []), (38, .iconst 0, 1, 0, 0, 0, .int 0, []), (39, .ireturn, 1, 1, 0, 0, .null, []), (40, .iinc 4 1, 3, 0, 0, 0, .int 1, []), (43, .goto (-40), 3, 3, 0, 0, .null, []), (46, .iconst 1, 1, 0, 0, 0, .int 1, []), (47, .ireturn, 1, 1, 0, 0, .null, [])]]
def ia_m_X5_isNameAt : ia_M := ("OffsetBook$Told", ⟨"OffsetBook$Told", "isNameAt", "(ILOffsetBook$Tape;I)Z"⟩, prog_7_method_3_code, 5, (some .boolean), 3, ia_k_X5_isNameAt, (265, 76, 264, 4), (0, 0))
def ia_k_X5_draftName : List (List ia_E) := [[(0, .aload_n 0, 1, 0, 0, 0, .null, []), (1, .getfield 15, 3, 5, 1, 117, .null, []), (4, .iload_n 1, 1, 0, 0, 0, .null, []), (5, .iload 4, 2, 0, 0, 0, .null, []), (7, .iastore, 1, 0, 0, 0, .null, []), (8, .aload_n 2, 1, 0, 0, 0, .null, []), (9, .getfield 44, 3, 4, 0, 0, .null, []), (12, .iload_n 3, 1, 0, 0, 0, .null, []), (13, .aload_n 0, 1, 0, 0, 0, .null, []), (14, .getfield 9, 3, 5, 0, 116, .null, [])],
  [(17, .iload_n 1, 1, 0, 0, 0, .null, []), (18, .bipush 6, 2, 0, 0, 0, .int 6, []), (20, .imul, 1, 0, 0, 0, .null, []), (21, .iload 4, 2, 0, 0, 0, .null, []), (23, .invokestatic 49, 3, 1, 5, 270, .null, [(0, 272), (0, 271), (0, 83)]), (26, .return_, 1, 0, 0, 0, .null, [])]]
def ia_m_X5_draftName : ia_M := ("OffsetBook$Told", ⟨"OffsetBook$Told", "draftName", "(ILOffsetBook$Tape;II)V"⟩, prog_7_method_4_code, 5, none, 4, ia_k_X5_draftName, (269, 76, 267, 268), (1, 30))
def ia_k_X5_draftStatement : List (List ia_E) := [[(0, .aload_n 0, 1, 0, 0, 0, .null, []), (1, .getfield 19, 3, 5, 2, 118, .null, []), (4, .iload_n 1, 1, 0, 0, 0, .null, []), (5, .iload_n 2, 1, 0, 0, 0, .null, []), (6, .iastore, 1, 0, 0, 0, .null, []), (7, .aload_n 0, 1, 0, 0, 0, .null, []), (8, .getfield 22, 3, 5, 3, 119, .null, []), (11, .iload_n 1, 1, 0, 0, 0, .null, []), (12, .iload_n 3, 1, 0, 0, 0, .null, []), (13, .iastore, 1, 0, 0, 0, .null, []), (14, .aload_n 0, 1, 0, 0, 0, .null, []), (15, .getfield 25, 3, 5, 4, 120, .null, [])],
  [(18, .iload_n 1, 1, 0, 0, 0, .null, []), (19, .lload 4, 2, 0, 0, 0, .null, []), (21, .lastore, 1, 0, 0, 0, .null, []), (22, .aload_n 0, 1, 0, 0, 0, .null, []), (23, .getfield 29, 3, 5, 5, 121, .null, []), (26, .iload_n 1, 1, 0, 0, 0, .null, []), (27, .iconst 0, 1, 0, 0, 0, .int 0, []), (28, .bastore, 1, 0, 0, 0, .null, []), (29, .return_, 1, 0, 0, 0, .null, [])]]
def ia_m_X5_draftStatement : ia_M := ("OffsetBook$Told", ⟨"OffsetBook$Told", "draftStatement", "(IIIJ)V"⟩, prog_7_method_5_code, 6, none, 4, ia_k_X5_draftStatement, (305, 76, 303, 304), (0, 0))
def ia_k_X5_becomeLike : List (List ia_E) := [[(0, .aload_n 0, 1, 0, 0, 0, .null, []), (1, .aload_n 1, 1, 0, 0, 0, .null, []), (2, .getfield 33, 3, 5, 6, 122, .null, []), (5, .putfield 33, 3, 5, 6, 122, .null, []), (8, .aload_n 0, 1, 0, 0, 0, .null, []), (9, .aload_n 1, 1, 0, 0, 0, .null, []), (10, .getfield 37, 3, 5, 7, 123, .null, []), (13, .putfield 37, 3, 5, 7, 123, .null, [])],
  [(16, .aload_n 1, 1, 0, 0, 0, .null, []), (17, .getfield 9, 3, 5, 0, 116, .null, []), (20, .iconst 0, 1, 0, 0, 0, .int 0, []), (21, .aload_n 0, 1, 0, 0, 0, .null, []), (22, .getfield 9, 3, 5, 0, 116, .null, []), (25, .iconst 0, 1, 0, 0, 0, .int 0, []), (26, .aload_n 0, 1, 0, 0, 0, .null, []), (27, .getfield 9, 3, 5, 0, 116, .null, []), (30, .arraylength, 1, 0, 0, 0, .null, []), (31, .invokestatic 49, 3, 1, 5, 270, .null, [(0, 272), (0, 271), (0, 83)])],
  [(34, .aload_n 1, 1, 0, 0, 0, .null, []), (35, .getfield 15, 3, 5, 1, 117, .null, []), (38, .iconst 0, 1, 0, 0, 0, .int 0, []), (39, .aload_n 0, 1, 0, 0, 0, .null, []), (40, .getfield 15, 3, 5, 1, 117, .null, []), (43, .iconst 0, 1, 0, 0, 0, .int 0, []), (44, .aload_n 0, 1, 0, 0, 0, .null, []), (45, .getfield 15, 3, 5, 1, 117, .null, [])],
  [(48, .arraylength, 1, 0, 0, 0, .null, []), (49, .invokestatic 49, 3, 1, 5, 270, .null, [(0, 272), (0, 271), (0, 83)]), (52, .iconst 0, 1, 0, 0, 0, .int 0, []), (53, .istore_n 2, 1, 0, 0, 0, .null, []), (54, .iload_n 2, 1, 0, 0, 0, .null, []), (55, .aload_n 0, 1, 0, 0, 0, .null, []), (56, .getfield 37, 3, 5, 7, 123, .null, []), (59, .if_icmp .ge 44, 3, 103, 0, 0, .null, []), (62, .aload_n 0, 1, 0, 0, 0, .null, []), (63, .iload_n 2, 1, 0, 0, 0, .null, [])],
  [(64, .aload_n 1, 1, 0, 0, 0, .null, []), (65, .getfield 19, 3, 5, 2, 118, .null, []), (68, .iload_n 2, 1, 0, 0, 0, .null, []), (69, .iaload, 1, 0, 0, 0, .null, []), (70, .aload_n 1, 1, 0, 0, 0, .null, []), (71, .getfield 22, 3, 5, 3, 119, .null, []), (74, .iload_n 2, 1, 0, 0, 0, .null, []), (75, .iaload, 1, 0, 0, 0, .null, []), (76, .aload_n 1, 1, 0, 0, 0, .null, []), (77, .getfield 25, 3, 5, 4, 120, .null, [])],
  [(80, .iload_n 2, 1, 0, 0, 0, .null, []), (81, .laload, 1, 0, 0, 0, .null, []), (82, .invokevirtual 55, 3, 39, 4, 578, .ref 5, []), (85, .aload_n 0, 1, 0, 0, 0, .null, []), (86, .getfield 29, 3, 5, 5, 121, .null, []), (89, .iload_n 2, 1, 0, 0, 0, .null, []), (90, .aload_n 1, 1, 0, 0, 0, .null, []), (91, .getfield 29, 3, 5, 5, 121, .null, []), (94, .iload_n 2, 1, 0, 0, 0, .null, []), (95, .baload, 1, 0, 0, 0, .null, [])],
  [(96, .bastore, 1, 0, 0, 0, .null, []), (97, .iinc 2 1, 3, 0, 0, 0, .int 1, []), (100, .goto (-46), 3, 54, 0, 0, .null, []), (103, .return_, 1, 0, 0, 0, .null, [])]]
def ia_m_X5_becomeLike : ia_M := ("OffsetBook$Told", ⟨"OffsetBook$Told", "becomeLike", "(LOffsetBook$Told;)V"⟩, prog_7_method_6_code, 3, none, 1, ia_k_X5_becomeLike, (577, 76, 575, 576), (1, 30))
def ia_k_X6_weave : List (List ia_E) := [[(0, .aload_n 0, 1, 0, 0, 0, .null, []), (1, .getfield 11, 3, 6, 0, 149, .null, []), (4, .iconst (-1), 1, 0, 0, 0, .int (-1), []), (5, .invokestatic 56, 3, 173, 2, 146, .null, []), (8, .iconst 0, 1, 0, 0, 0, .int 0, []), (9, .istore_n 3, 1, 0, 0, 0, .null, []), (10, .iload_n 3, 1, 0, 0, 0, .null, []), (11, .aload_n 1, 1, 0, 0, 0, .null, []), (12, .getfield 62, 3, 5, 7, 22, .null, []), (15, .if_icmp .ge 58, 3, 73, 0, 0, .null, [])],
  [(18, .aload_n 2, 1, 0, 0, 0, .null, []), (19, .getfield 67, 3, 1, 0, 27, .null, []), (22, .iload_n 3, 1, 0, 0, 0, .null, []), (23, .iaload, 1, 0, 0, 0, .null, []), (24, .ifCond .eq 13, 3, 37, 0, 0, .null, []), (27, .aload_n 2, 1, 0, 0, 0, .null, []), (28, .getfield 67, 3, 1, 0, 27, .null, []), (31, .iload_n 3, 1, 0, 0, 0, .null, [])],
  [(32, .iaload, 1, 0, 0, 0, .null, []), (33, .iconst 1, 1, 0, 0, 0, .int 1, []), (34, .if_icmp .ne 33, 3, 67, 0, 0, .null, []), (37, .aload_n 0, 1, 0, 0, 0, .null, []), (38, .getfield 11, 3, 6, 0, 149, .null, []), (41, .iconst 2, 1, 0, 0, 0, .int 2, []), (42, .iload_n 3, 1, 0, 0, 0, .null, []), (43, .imul, 1, 0, 0, 0, .null, []), (44, .aload_n 1, 1, 0, 0, 0, .null, []), (45, .getfield 72, 3, 5, 3, 11, .null, [])],
  [(48, .iload_n 3, 1, 0, 0, 0, .null, []), (49, .iaload, 1, 0, 0, 0, .null, []), (50, .iastore, 1, 0, 0, 0, .null, []), (51, .aload_n 0, 1, 0, 0, 0, .null, []), (52, .getfield 11, 3, 6, 0, 149, .null, []), (55, .iconst 2, 1, 0, 0, 0, .int 2, []), (56, .iload_n 3, 1, 0, 0, 0, .null, []), (57, .imul, 1, 0, 0, 0, .null, []), (58, .iconst 1, 1, 0, 0, 0, .int 1, []), (59, .iadd, 1, 0, 0, 0, .null, []), (60, .aload_n 1, 1, 0, 0, 0, .null, []), (61, .getfield 75, 3, 5, 2, 8, .null, [])],
  [(64, .iload_n 3, 1, 0, 0, 0, .null, []), (65, .iaload, 1, 0, 0, 0, .null, []), (66, .iastore, 1, 0, 0, 0, .null, []), (67, .iinc 3 1, 3, 0, 0, 0, .int 1, []), (70, .goto (-60), 3, 10, 0, 0, .null, []), (73, .aload_n 0, 1, 0, 0, 0, .null, []), (74, .invokevirtual 78, 3, 42, 0, 349, .ref 6, []), (77, .return_, 1, 0, 0, 0, .null, [])]]
def ia_m_X6_weave : ia_M := ("OffsetBook$Web", ⟨"OffsetBook$Web", "weave", "(LOffsetBook$Told;LOffsetBook$Groups;)V"⟩, prog_8_method_2_code, 4, none, 2, ia_k_X6_weave, (348, 78, 346, 347), (2, 45))
def ia_k_X6_sortWays : List (List ia_E) := [[(0, .aload_n 0, 1, 0, 0, 0, .null, []), (1, .getfield 18, 3, 6, 2, 151, .null, []), (4, .iconst 0, 1, 0, 0, 0, .int 0, []), (5, .invokestatic 56, 3, 173, 2, 146, .null, []), (8, .iconst 0, 1, 0, 0, 0, .int 0, []), (9, .istore_n 1, 1, 0, 0, 0, .null, []), (10, .iload_n 1, 1, 0, 0, 0, .null, []), (11, .sipush 240, 3, 0, 0, 0, .int 240, []), (14, .if_icmp .ge 38, 3, 52, 0, 0, .null, [])],
  [(17, .aload_n 0, 1, 0, 0, 0, .null, []), (18, .getfield 11, 3, 6, 0, 149, .null, []), (21, .iload_n 1, 1, 0, 0, 0, .null, []), (22, .iaload, 1, 0, 0, 0, .null, []), (23, .iconst (-1), 1, 0, 0, 0, .int (-1), []), (24, .if_icmp .eq 22, 3, 46, 0, 0, .null, []), (27, .aload_n 0, 1, 0, 0, 0, .null, []), (28, .getfield 18, 3, 6, 2, 151, .null, []), (31, .aload_n 0, 1, 0, 0, 0, .null, [])],
  [(32, .getfield 11, 3, 6, 0, 149, .null, []), (35, .iload_n 1, 1, 0, 0, 0, .null, []), (36, .iconst 1, 1, 0, 0, 0, .int 1, []), (37, .ixor, 1, 0, 0, 0, .null, []), (38, .iaload, 1, 0, 0, 0, .null, []), (39, .iconst 1, 1, 0, 0, 0, .int 1, []), (40, .iadd, 1, 0, 0, 0, .null, []), (41, .dup2, 1, 0, 0, 0, .null, []), (42, .iaload, 1, 0, 0, 0, .null, []), (43, .iconst 1, 1, 0, 0, 0, .int 1, []), (44, .iadd, 1, 0, 0, 0, .null, []), (45, .iastore, 1, 0, 0, 0, .null, []), (46, .iinc 1 1, 3, 0, 0, 0, .int 1, [])],
  [(49, .goto (-39), 3, 10, 0, 0, .null, []), (52, .iconst 0, 1, 0, 0, 0, .int 0, []), (53, .istore_n 1, 1, 0, 0, 0, .null, []), (54, .iload_n 1, 1, 0, 0, 0, .null, []), (55, .bipush 41, 2, 0, 0, 0, .int 41, []), (57, .if_icmp .ge 26, 3, 83, 0, 0, .null, []), (60, .aload_n 0, 1, 0, 0, 0, .null, []), (61, .getfield 18, 3, 6, 2, 151, .null, [])],
  [(64, .iload_n 1, 1, 0, 0, 0, .null, []), (65, .iconst 1, 1, 0, 0, 0, .int 1, []), (66, .iadd, 1, 0, 0, 0, .null, []), (67, .dup2, 1, 0, 0, 0, .null, []), (68, .iaload, 1, 0, 0, 0, .null, []), (69, .aload_n 0, 1, 0, 0, 0, .null, []), (70, .getfield 18, 3, 6, 2, 151, .null, []), (73, .iload_n 1, 1, 0, 0, 0, .null, []), (74, .iaload, 1, 0, 0, 0, .null, []), (75, .iadd, 1, 0, 0, 0, .null, []), (76, .iastore, 1, 0, 0, 0, .null, []), (77, .iinc 1 1, 3, 0, 0, 0, .int 1, [])],
  [(80, .goto (-26), 3, 54, 0, 0, .null, []), (83, .aload_n 0, 1, 0, 0, 0, .null, []), (84, .getfield 21, 3, 6, 3, 152, .null, []), (87, .iconst 0, 1, 0, 0, 0, .int 0, []), (88, .invokestatic 56, 3, 173, 2, 146, .null, []), (91, .iconst 0, 1, 0, 0, 0, .int 0, []), (92, .istore_n 1, 1, 0, 0, 0, .null, []), (93, .iload_n 1, 1, 0, 0, 0, .null, []), (94, .sipush 240, 3, 0, 0, 0, .int 240, [])],
  [(97, .if_icmp .ge 57, 3, 154, 0, 0, .null, []), (100, .aload_n 0, 1, 0, 0, 0, .null, []), (101, .getfield 11, 3, 6, 0, 149, .null, []), (104, .iload_n 1, 1, 0, 0, 0, .null, []), (105, .iaload, 1, 0, 0, 0, .null, []), (106, .iconst (-1), 1, 0, 0, 0, .int (-1), []), (107, .if_icmp .eq 41, 3, 148, 0, 0, .null, []), (110, .aload_n 0, 1, 0, 0, 0, .null, []), (111, .getfield 11, 3, 6, 0, 149, .null, [])],
  [(114, .iload_n 1, 1, 0, 0, 0, .null, []), (115, .iconst 1, 1, 0, 0, 0, .int 1, []), (116, .ixor, 1, 0, 0, 0, .null, []), (117, .iaload, 1, 0, 0, 0, .null, []), (118, .istore_n 2, 1, 0, 0, 0, .null, []), (119, .aload_n 0, 1, 0, 0, 0, .null, []), (120, .getfield 15, 3, 6, 1, 150, .null, []), (123, .aload_n 0, 1, 0, 0, 0, .null, []), (124, .getfield 18, 3, 6, 2, 151, .null, []), (127, .iload_n 2, 1, 0, 0, 0, .null, [])],
  [(128, .iaload, 1, 0, 0, 0, .null, []), (129, .aload_n 0, 1, 0, 0, 0, .null, []), (130, .getfield 21, 3, 6, 3, 152, .null, []), (133, .iload_n 2, 1, 0, 0, 0, .null, []), (134, .iaload, 1, 0, 0, 0, .null, []), (135, .iadd, 1, 0, 0, 0, .null, []), (136, .iload_n 1, 1, 0, 0, 0, .null, []), (137, .iastore, 1, 0, 0, 0, .null, []), (138, .aload_n 0, 1, 0, 0, 0, .null, []), (139, .getfield 21, 3, 6, 3, 152, .null, []), (142, .iload_n 2, 1, 0, 0, 0, .null, []), (143, .dup2, 1, 0, 0, 0, .null, [])],
  [(144, .iaload, 1, 0, 0, 0, .null, []), (145, .iconst 1, 1, 0, 0, 0, .int 1, []), (146, .iadd, 1, 0, 0, 0, .null, []), (147, .iastore, 1, 0, 0, 0, .null, []), (148, .iinc 1 1, 3, 0, 0, 0, .int 1, []), (151, .goto (-58), 3, 93, 0, 0, .null, []), (154, .return_, 1, 0, 0, 0, .null, [])]]
def ia_m_X6_sortWays : ia_M := ("OffsetBook$Web", ⟨"OffsetBook$Web", "sortWays", "()V"⟩, prog_8_method_3_code, 3, none, 0, ia_k_X6_sortWays, (351, 78, 350, 13), (1, 23))
def ia_k_X6_isStanding : List (List ia_E) := [[(0, .aload_n 0, 1, 0, 0, 0, .null, []), (1, .getfield 11, 3, 6, 0, 149, .null, []), (4, .iconst 2, 1, 0, 0, 0, .int 2, []), (5, .iload_n 1, 1, 0, 0, 0, .null, []), (6, .imul, 1, 0, 0, 0, .null, []), (7, .iaload, 1, 0, 0, 0, .null, []), (8, .iconst (-1), 1, 0, 0, 0, .int (-1), []), (9, .if_icmp .eq 7, 3, 16, 0, 0, .null, []), (12, .iconst 1, 1, 0, 0, 0, .int 1, []), (13, .goto 4, 3, 17, 0, 0, .null, [])],
  [(16, .iconst 0, 1, 0, 0, 0, .int 0, []), (17, .ireturn, 1, 1, 0, 0, .null, [])]]
def ia_m_X6_isStanding : ia_M := ("OffsetBook$Web", ⟨"OffsetBook$Web", "isStanding", "(I)Z"⟩, prog_8_method_4_code, 2, (some .boolean), 1, ia_k_X6_isStanding, (415, 78, 414, 22), (0, 0))
def ia_k_X6_forgetReached : List (List ia_E) := [[(0, .aload_n 0, 1, 0, 0, 0, .null, []), (1, .getfield 37, 3, 6, 8, 157, .null, []), (4, .iconst (-1), 1, 0, 0, 0, .int (-1), []), (5, .invokestatic 56, 3, 173, 2, 146, .null, []), (8, .aload_n 0, 1, 0, 0, 0, .null, []), (9, .iconst 0, 1, 0, 0, 0, .int 0, []), (10, .putfield 33, 3, 6, 7, 156, .null, []), (13, .return_, 1, 0, 0, 0, .null, [])]]
def ia_m_X6_forgetReached : ia_M := ("OffsetBook$Web", ⟨"OffsetBook$Web", "forgetReached", "()V"⟩, prog_8_method_5_code, 1, none, 0, ia_k_X6_forgetReached, (403, 78, 402, 18), (1, 23))
def ia_k_X6_mark : List (List ia_E) := [[(0, .aload_n 0, 1, 0, 0, 0, .null, []), (1, .getfield 37, 3, 6, 8, 157, .null, []), (4, .iload_n 1, 1, 0, 0, 0, .null, []), (5, .iload_n 2, 1, 0, 0, 0, .null, []), (6, .iastore, 1, 0, 0, 0, .null, []), (7, .aload_n 0, 1, 0, 0, 0, .null, []), (8, .getfield 40, 3, 6, 9, 158, .null, []), (11, .iload_n 1, 1, 0, 0, 0, .null, []), (12, .iload_n 3, 1, 0, 0, 0, .null, []), (13, .iastore, 1, 0, 0, 0, .null, []), (14, .aload_n 0, 1, 0, 0, 0, .null, []), (15, .getfield 33, 3, 6, 7, 156, .null, [])],
  [(18, .bipush 41, 2, 0, 0, 0, .int 41, []), (20, .if_icmp .ge 23, 3, 43, 0, 0, .null, []), (23, .aload_n 0, 1, 0, 0, 0, .null, []), (24, .getfield 30, 3, 6, 6, 155, .null, []), (27, .aload_n 0, 1, 0, 0, 0, .null, []), (28, .getfield 33, 3, 6, 7, 156, .null, []), (31, .iload_n 1, 1, 0, 0, 0, .null, [])],
  [(32, .iastore, 1, 0, 0, 0, .null, []), (33, .aload_n 0, 1, 0, 0, 0, .null, []), (34, .dup, 1, 0, 0, 0, .null, []), (35, .getfield 33, 3, 6, 7, 156, .null, []), (38, .iconst 1, 1, 0, 0, 0, .int 1, []), (39, .iadd, 1, 0, 0, 0, .null, []), (40, .putfield 33, 3, 6, 7, 156, .null, []), (43, .return_, 1, 0, 0, 0, .null, [])]]
def ia_m_X6_mark : ia_M := ("OffsetBook$Web", ⟨"OffsetBook$Web", "mark", "(III)V"⟩, prog_8_method_6_code, 4, none, 3, ia_k_X6_mark, (409, 78, 408, 20), (0, 0))
def ia_k_X6_reachFrom : List (List ia_E) := [[(0, .aload_n 0, 1, 0, 0, 0, .null, []), (1, .getfield 33, 3, 6, 7, 156, .null, []), (4, .istore_n 2, 1, 0, 0, 0, .null, []), (5, .aload_n 0, 1, 0, 0, 0, .null, []), (6, .iload_n 1, 1, 0, 0, 0, .null, []), (7, .iconst 0, 1, 0, 0, 0, .int 0, []), (8, .iconst (-1), 1, 0, 0, 0, .int (-1), []), (9, .invokevirtual 81, 3, 45, 3, 407, .ref 6, []), (12, .iload_n 2, 1, 0, 0, 0, .null, []), (13, .istore_n 3, 1, 0, 0, 0, .null, []), (14, .iload_n 3, 1, 0, 0, 0, .null, []), (15, .aload_n 0, 1, 0, 0, 0, .null, [])],
  [(16, .getfield 33, 3, 6, 7, 156, .null, []), (19, .if_icmp .ge 113, 3, 132, 0, 0, .null, []), (22, .iload_n 3, 1, 0, 0, 0, .null, []), (23, .bipush 41, 2, 0, 0, 0, .int 41, []), (25, .if_icmp .ge 107, 3, 132, 0, 0, .null, []), (28, .aload_n 0, 1, 0, 0, 0, .null, []), (29, .getfield 30, 3, 6, 6, 155, .null, [])],
  [(32, .iload_n 3, 1, 0, 0, 0, .null, []), (33, .iaload, 1, 0, 0, 0, .null, []), (34, .istore 4, 2, 0, 0, 0, .null, []), (36, .aload_n 0, 1, 0, 0, 0, .null, []), (37, .getfield 18, 3, 6, 2, 151, .null, []), (40, .iload 4, 2, 0, 0, 0, .null, []), (42, .iaload, 1, 0, 0, 0, .null, []), (43, .istore 5, 2, 0, 0, 0, .null, []), (45, .iload 5, 2, 0, 0, 0, .null, []), (47, .aload_n 0, 1, 0, 0, 0, .null, [])],
  [(48, .getfield 18, 3, 6, 2, 151, .null, []), (51, .iload 4, 2, 0, 0, 0, .null, []), (53, .iconst 1, 1, 0, 0, 0, .int 1, []), (54, .iadd, 1, 0, 0, 0, .null, []), (55, .iaload, 1, 0, 0, 0, .null, []), (56, .if_icmp .ge 70, 3, 126, 0, 0, .null, []), (59, .aload_n 0, 1, 0, 0, 0, .null, []), (60, .getfield 11, 3, 6, 0, 149, .null, []), (63, .aload_n 0, 1, 0, 0, 0, .null, [])],
  [(64, .getfield 15, 3, 6, 1, 150, .null, []), (67, .iload 5, 2, 0, 0, 0, .null, []), (69, .iaload, 1, 0, 0, 0, .null, []), (70, .iaload, 1, 0, 0, 0, .null, []), (71, .istore 6, 2, 0, 0, 0, .null, []), (73, .aload_n 0, 1, 0, 0, 0, .null, []), (74, .getfield 37, 3, 6, 8, 157, .null, []), (77, .iload 6, 2, 0, 0, 0, .null, []), (79, .iaload, 1, 0, 0, 0, .null, [])],
  [(80, .iconst (-1), 1, 0, 0, 0, .int (-1), []), (81, .if_icmp .ne 39, 3, 120, 0, 0, .null, []), (84, .aload_n 0, 1, 0, 0, 0, .null, []), (85, .aload_n 0, 1, 0, 0, 0, .null, []), (86, .getfield 15, 3, 6, 1, 150, .null, []), (89, .iload 5, 2, 0, 0, 0, .null, []), (91, .iaload, 1, 0, 0, 0, .null, []), (92, .invokevirtual 85, 3, 47, 1, 410, .ref 6, []), (95, .ifCond .eq 25, 3, 120, 0, 0, .null, [])],
  [(98, .aload_n 0, 1, 0, 0, 0, .null, []), (99, .iload 6, 2, 0, 0, 0, .null, []), (101, .aload_n 0, 1, 0, 0, 0, .null, []), (102, .getfield 37, 3, 6, 8, 157, .null, []), (105, .iload 4, 2, 0, 0, 0, .null, []), (107, .iaload, 1, 0, 0, 0, .null, []), (108, .iconst 1, 1, 0, 0, 0, .int 1, []), (109, .iadd, 1, 0, 0, 0, .null, []), (110, .aload_n 0, 1, 0, 0, 0, .null, []), (111, .getfield 15, 3, 6, 1, 150, .null, [])],
  [(114, .iload 5, 2, 0, 0, 0, .null, []), (116, .iaload, 1, 0, 0, 0, .null, []), (117, .invokevirtual 81, 3, 45, 3, 407, .ref 6, []), (120, .iinc 5 1, 3, 0, 0, 0, .int 1, []), (123, .goto (-78), 3, 45, 0, 0, .null, []), (126, .iinc 3 1, 3, 0, 0, 0, .int 1, [])],
  [(129, .goto (-115), 3, 14, 0, 0, .null, []), (132, .return_, 1, 0, 0, 0, .null, [])]]
def ia_m_X6_reachFrom : ia_M := ("OffsetBook$Web", ⟨"OffsetBook$Web", "reachFrom", "(I)V"⟩, prog_8_method_7_code, 7, none, 1, ia_k_X6_reachFrom, (406, 78, 405, 19), (1, 23))
def ia_k_X6_hasRoom : List (List ia_E) := [[(0, .iload_n 1, 1, 0, 0, 0, .null, []), (1, .iconst 1, 1, 0, 0, 0, .int 1, []), (2, .iand, 1, 0, 0, 0, .null, []), (3, .ifCond .ne 23, 3, 26, 0, 0, .null, []), (6, .aload_n 0, 1, 0, 0, 0, .null, []), (7, .getfield 43, 3, 6, 10, 159, .null, []), (10, .iload_n 1, 1, 0, 0, 0, .null, []), (11, .iconst 1, 1, 0, 0, 0, .int 1, []), (12, .ishr, 1, 0, 0, 0, .null, []), (13, .iaload, 1, 0, 0, 0, .null, []), (14, .iconst 1, 1, 0, 0, 0, .int 1, []), (15, .if_icmp .ge 7, 3, 22, 0, 0, .null, [])],
  [(18, .iconst 1, 1, 0, 0, 0, .int 1, []), (19, .goto 24, 3, 43, 0, 0, .null, []), (22, .iconst 0, 1, 0, 0, 0, .int 0, []), (23, .goto 20, 3, 43, 0, 0, .null, []), (26, .aload_n 0, 1, 0, 0, 0, .null, []), (27, .getfield 43, 3, 6, 10, 159, .null, []), (30, .iload_n 1, 1, 0, 0, 0, .null, []), (31, .iconst 1, 1, 0, 0, 0, .int 1, [])],
  [(32, .ishr, 1, 0, 0, 0, .null, []), (33, .iaload, 1, 0, 0, 0, .null, []), (34, .iconst (-1), 1, 0, 0, 0, .int (-1), []), (35, .if_icmp .le 7, 3, 42, 0, 0, .null, []), (38, .iconst 1, 1, 0, 0, 0, .int 1, []), (39, .goto 4, 3, 43, 0, 0, .null, []), (42, .iconst 0, 1, 0, 0, 0, .int 0, []), (43, .ireturn, 1, 1, 0, 0, .null, [])]]
def ia_m_X6_hasRoom : ia_M := ("OffsetBook$Web", ⟨"OffsetBook$Web", "hasRoom", "(I)Z"⟩, prog_8_method_8_code, 2, (some .boolean), 1, ia_k_X6_hasRoom, (412, 78, 411, 21), (0, 0))
def ia_k_X6_findChain : List (List ia_E) := [[(0, .aload_n 0, 1, 0, 0, 0, .null, []), (1, .getfield 43, 3, 6, 10, 159, .null, []), (4, .iconst 0, 1, 0, 0, 0, .int 0, []), (5, .invokestatic 56, 3, 173, 2, 146, .null, []), (8, .aload_n 0, 1, 0, 0, 0, .null, []), (9, .invokevirtual 89, 3, 44, 0, 401, .ref 6, []), (12, .aload_n 0, 1, 0, 0, 0, .null, []), (13, .iload_n 2, 1, 0, 0, 0, .null, []), (14, .invokevirtual 92, 3, 46, 1, 404, .ref 6, [])],
  [(17, .aload_n 0, 1, 0, 0, 0, .null, []), (18, .getfield 37, 3, 6, 8, 157, .null, []), (21, .iload_n 1, 1, 0, 0, 0, .null, []), (22, .iaload, 1, 0, 0, 0, .null, []), (23, .istore_n 3, 1, 0, 0, 0, .null, []), (24, .iload_n 1, 1, 0, 0, 0, .null, []), (25, .istore 4, 2, 0, 0, 0, .null, []), (27, .iconst 0, 1, 0, 0, 0, .int 0, []), (28, .istore 5, 2, 0, 0, 0, .null, []), (30, .iload 5, 2, 0, 0, 0, .null, [])],
  [(32, .iload_n 3, 1, 0, 0, 0, .null, []), (33, .if_icmp .ge 45, 3, 78, 0, 0, .null, []), (36, .aload_n 0, 1, 0, 0, 0, .null, []), (37, .iload 4, 2, 0, 0, 0, .null, []), (39, .invokevirtual 96, 3, 49, 1, 517, .ref 6, []), (42, .istore 6, 2, 0, 0, 0, .null, []), (44, .iload 6, 2, 0, 0, 0, .null, []), (46, .iconst (-1), 1, 0, 0, 0, .int (-1), []), (47, .if_icmp .ne 5, 3, 52, 0, 0, .null, [])],
  [(50, .iconst (-1), 1, 0, 0, 0, .int (-1), []), (51, .ireturn, 1, 0, 0, 0, .null, []), (52, .aload_n 0, 1, 0, 0, 0, .null, []), (53, .getfield 24, 3, 6, 4, 153, .null, []), (56, .iload 5, 2, 0, 0, 0, .null, []), (58, .iload 6, 2, 0, 0, 0, .null, []), (60, .iconst 1, 1, 0, 0, 0, .int 1, []), (61, .ishr, 1, 0, 0, 0, .null, []), (62, .iastore, 1, 0, 0, 0, .null, []), (63, .aload_n 0, 1, 0, 0, 0, .null, [])],
  [(64, .getfield 11, 3, 6, 0, 149, .null, []), (67, .iload 6, 2, 0, 0, 0, .null, []), (69, .iaload, 1, 0, 0, 0, .null, []), (70, .istore 4, 2, 0, 0, 0, .null, []), (72, .iinc 5 1, 3, 0, 0, 0, .int 1, []), (75, .goto (-45), 3, 30, 0, 0, .null, []), (78, .iload_n 3, 1, 0, 0, 0, .null, []), (79, .ireturn, 1, 0, 0, 0, .null, [])]]
def ia_m_X6_findChain : ia_M := ("OffsetBook$Web", ⟨"OffsetBook$Web", "findChain", "(II)I"⟩, prog_8_method_9_code, 7, (some .int), 2, ia_k_X6_findChain, (516, 78, 514, 515), (2, 49))
def ia_k_X6_firstNearer : List (List ia_E) := [[(0, .aload_n 0, 1, 0, 0, 0, .null, []), (1, .getfield 18, 3, 6, 2, 151, .null, []), (4, .iload_n 1, 1, 0, 0, 0, .null, []), (5, .iaload, 1, 0, 0, 0, .null, []), (6, .istore_n 2, 1, 0, 0, 0, .null, []), (7, .iload_n 2, 1, 0, 0, 0, .null, []), (8, .aload_n 0, 1, 0, 0, 0, .null, []), (9, .getfield 18, 3, 6, 2, 151, .null, []), (12, .iload_n 1, 1, 0, 0, 0, .null, []), (13, .iconst 1, 1, 0, 0, 0, .int 1, []), (14, .iadd, 1, 0, 0, 0, .null, []), (15, .iaload, 1, 0, 0, 0, .null, [])],
  [(16, .if_icmp .ge 43, 3, 59, 0, 0, .null, []), (19, .aload_n 0, 1, 0, 0, 0, .null, []), (20, .getfield 37, 3, 6, 8, 157, .null, []), (23, .aload_n 0, 1, 0, 0, 0, .null, []), (24, .getfield 11, 3, 6, 0, 149, .null, []), (27, .aload_n 0, 1, 0, 0, 0, .null, []), (28, .getfield 15, 3, 6, 1, 150, .null, []), (31, .iload_n 2, 1, 0, 0, 0, .null, [])],
  [(32, .iaload, 1, 0, 0, 0, .null, []), (33, .iaload, 1, 0, 0, 0, .null, []), (34, .iaload, 1, 0, 0, 0, .null, []), (35, .aload_n 0, 1, 0, 0, 0, .null, []), (36, .getfield 37, 3, 6, 8, 157, .null, []), (39, .iload_n 1, 1, 0, 0, 0, .null, []), (40, .iaload, 1, 0, 0, 0, .null, []), (41, .iconst 1, 1, 0, 0, 0, .int 1, []), (42, .isub, 1, 0, 0, 0, .null, []), (43, .if_icmp .ne 10, 3, 53, 0, 0, .null, []), (46, .aload_n 0, 1, 0, 0, 0, .null, []), (47, .getfield 15, 3, 6, 1, 150, .null, [])],
  [(50, .iload_n 2, 1, 0, 0, 0, .null, []), (51, .iaload, 1, 0, 0, 0, .null, []), (52, .ireturn, 1, 0, 0, 0, .null, []), (53, .iinc 2 1, 3, 0, 0, 0, .int 1, []), (56, .goto (-49), 3, 7, 0, 0, .null, []), (59, .iconst (-1), 1, 0, 0, 0, .int (-1), []), (60, .ireturn, 1, 0, 0, 0, .null, [])]]
def ia_m_X6_firstNearer : ia_M := ("OffsetBook$Web", ⟨"OffsetBook$Web", "firstNearer", "(I)I"⟩, prog_8_method_10_code, 3, (some .int), 1, ia_k_X6_firstNearer, (519, 78, 518, 29), (0, 0))
def ia_k_X6_clearTimes : List (List ia_E) := [[(0, .aload_n 0, 1, 0, 0, 0, .null, []), (1, .getfield 27, 3, 6, 5, 154, .null, []), (4, .iconst 0, 1, 0, 0, 0, .int 0, []), (5, .invokestatic 56, 3, 173, 2, 146, .null, []), (8, .return_, 1, 0, 0, 0, .null, [])]]
def ia_m_X6_clearTimes : ia_M := ("OffsetBook$Web", ⟨"OffsetBook$Web", "clearTimes", "()V"⟩, prog_8_method_11_code, 1, none, 0, ia_k_X6_clearTimes, (541, 78, 539, 540), (1, 23))
def ia_k_X6_countChain : List (List ia_E) := [[(0, .aload_n 0, 1, 0, 0, 0, .null, []), (1, .iload_n 1, 1, 0, 0, 0, .null, []), (2, .iload_n 2, 1, 0, 0, 0, .null, []), (3, .invokevirtual 100, 3, 48, 2, 546, .ref 6, []), (6, .istore_n 3, 1, 0, 0, 0, .null, []), (7, .iconst 0, 1, 0, 0, 0, .int 0, []), (8, .istore 4, 2, 0, 0, 0, .null, []), (10, .iload 4, 2, 0, 0, 0, .null, []), (12, .iload_n 3, 1, 0, 0, 0, .null, []), (13, .if_icmp .ge 25, 3, 38, 0, 0, .null, [])],
  [(16, .aload_n 0, 1, 0, 0, 0, .null, []), (17, .getfield 27, 3, 6, 5, 154, .null, []), (20, .aload_n 0, 1, 0, 0, 0, .null, []), (21, .getfield 24, 3, 6, 4, 153, .null, []), (24, .iload 4, 2, 0, 0, 0, .null, []), (26, .iaload, 1, 0, 0, 0, .null, []), (27, .dup2, 1, 0, 0, 0, .null, []), (28, .iaload, 1, 0, 0, 0, .null, []), (29, .iconst 1, 1, 0, 0, 0, .int 1, []), (30, .iadd, 1, 0, 0, 0, .null, []), (31, .iastore, 1, 0, 0, 0, .null, [])],
  [(32, .iinc 4 1, 3, 0, 0, 0, .int 1, []), (35, .goto (-25), 3, 10, 0, 0, .null, []), (38, .return_, 1, 0, 0, 0, .null, [])]]
def ia_m_X6_countChain : ia_M := ("OffsetBook$Web", ⟨"OffsetBook$Web", "countChain", "(II)V"⟩, prog_8_method_12_code, 5, none, 2, ia_k_X6_countChain, (545, 78, 543, 544), (3, 75))
def ia_k_X6_mostOften : List (List ia_E) := [[(0, .iconst (-1), 1, 0, 0, 0, .int (-1), []), (1, .istore_n 1, 1, 0, 0, 0, .null, []), (2, .iconst 0, 1, 0, 0, 0, .int 0, []), (3, .istore_n 2, 1, 0, 0, 0, .null, []), (4, .iload_n 2, 1, 0, 0, 0, .null, []), (5, .bipush 120, 2, 0, 0, 0, .int 120, []), (7, .if_icmp .ge 35, 3, 42, 0, 0, .null, []), (10, .aload_n 0, 1, 0, 0, 0, .null, []), (11, .getfield 27, 3, 6, 5, 154, .null, []), (14, .iload_n 2, 1, 0, 0, 0, .null, []), (15, .iaload, 1, 0, 0, 0, .null, [])],
  [(16, .iload_n 1, 1, 0, 0, 0, .null, []), (17, .iconst (-1), 1, 0, 0, 0, .int (-1), []), (18, .if_icmp .ne 7, 3, 25, 0, 0, .null, []), (21, .iconst 0, 1, 0, 0, 0, .int 0, []), (22, .goto 9, 3, 31, 0, 0, .null, []), (25, .aload_n 0, 1, 0, 0, 0, .null, []), (26, .getfield 27, 3, 6, 5, 154, .null, []), (29, .iload_n 1, 1, 0, 0, 0, .null, []), (30, .iaload, 1, 0, 0, 0, .null, []), (31, .if_icmp .le 5, 3, 36, 0, 0, .null, [])],
  [(34, .iload_n 2, 1, 0, 0, 0, .null, []), (35, .istore_n 1, 1, 0, 0, 0, .null, []), (36, .iinc 2 1, 3, 0, 0, 0, .int 1, []), (39, .goto (-35), 3, 4, 0, 0, .null, []), (42, .iload_n 1, 1, 0, 0, 0, .null, []), (43, .ireturn, 1, 0, 0, 0, .null, [])]]
def ia_m_X6_mostOften : ia_M := ("OffsetBook$Web", ⟨"OffsetBook$Web", "mostOften", "()I"⟩, prog_8_method_13_code, 3, (some .int), 0, ia_k_X6_mostOften, (550, 78, 548, 549), (0, 0))
def ia_k_X6_findCut : List (List ia_E) := [[(0, .aload_n 0, 1, 0, 0, 0, .null, []), (1, .getfield 43, 3, 6, 10, 159, .null, []), (4, .iconst 0, 1, 0, 0, 0, .int 0, []), (5, .invokestatic 56, 3, 173, 2, 146, .null, []), (8, .iconst 0, 1, 0, 0, 0, .int 0, []), (9, .istore_n 3, 1, 0, 0, 0, .null, []), (10, .iload_n 3, 1, 0, 0, 0, .null, []), (11, .bipush 120, 2, 0, 0, 0, .int 120, []), (13, .if_icmp .gt 36, 3, 49, 0, 0, .null, [])],
  [(16, .aload_n 0, 1, 0, 0, 0, .null, []), (17, .invokevirtual 89, 3, 44, 0, 401, .ref 6, []), (20, .aload_n 0, 1, 0, 0, 0, .null, []), (21, .iload_n 1, 1, 0, 0, 0, .null, []), (22, .invokevirtual 92, 3, 46, 1, 404, .ref 6, []), (25, .aload_n 0, 1, 0, 0, 0, .null, []), (26, .getfield 37, 3, 6, 8, 157, .null, []), (29, .iload_n 2, 1, 0, 0, 0, .null, []), (30, .iaload, 1, 0, 0, 0, .null, []), (31, .iconst (-1), 1, 0, 0, 0, .int (-1), [])],
  [(32, .if_icmp .ne 6, 3, 38, 0, 0, .null, []), (35, .goto 14, 3, 49, 0, 0, .null, []), (38, .aload_n 0, 1, 0, 0, 0, .null, []), (39, .iload_n 2, 1, 0, 0, 0, .null, []), (40, .invokevirtual 104, 3, 55, 1, 528, .ref 6, []), (43, .iinc 3 1, 3, 0, 0, 0, .int 1, []), (46, .goto (-36), 3, 10, 0, 0, .null, [])],
  [(49, .iconst 0, 1, 0, 0, 0, .int 0, []), (50, .istore_n 3, 1, 0, 0, 0, .null, []), (51, .iconst 0, 1, 0, 0, 0, .int 0, []), (52, .istore 4, 2, 0, 0, 0, .null, []), (54, .iload 4, 2, 0, 0, 0, .null, []), (56, .bipush 120, 2, 0, 0, 0, .int 120, []), (58, .if_icmp .ge 60, 3, 118, 0, 0, .null, []), (61, .aload_n 0, 1, 0, 0, 0, .null, []), (62, .iload 4, 2, 0, 0, 0, .null, [])],
  [(64, .invokevirtual 107, 3, 43, 1, 413, .ref 6, []), (67, .ifCond .eq 45, 3, 112, 0, 0, .null, []), (70, .aload_n 0, 1, 0, 0, 0, .null, []), (71, .aload_n 0, 1, 0, 0, 0, .null, []), (72, .getfield 11, 3, 6, 0, 149, .null, []), (75, .iconst 2, 1, 0, 0, 0, .int 2, []), (76, .iload 4, 2, 0, 0, 0, .null, []), (78, .imul, 1, 0, 0, 0, .null, []), (79, .iaload, 1, 0, 0, 0, .null, [])],
  [(80, .invokevirtual 110, 3, 54, 1, 531, .ref 6, []), (83, .aload_n 0, 1, 0, 0, 0, .null, []), (84, .aload_n 0, 1, 0, 0, 0, .null, []), (85, .getfield 11, 3, 6, 0, 149, .null, []), (88, .iconst 2, 1, 0, 0, 0, .int 2, []), (89, .iload 4, 2, 0, 0, 0, .null, []), (91, .imul, 1, 0, 0, 0, .null, []), (92, .iconst 1, 1, 0, 0, 0, .int 1, []), (93, .iadd, 1, 0, 0, 0, .null, []), (94, .iaload, 1, 0, 0, 0, .null, []), (95, .invokevirtual 110, 3, 54, 1, 531, .ref 6, [])],
  [(98, .if_icmp .eq 14, 3, 112, 0, 0, .null, []), (101, .aload_n 0, 1, 0, 0, 0, .null, []), (102, .getfield 24, 3, 6, 4, 153, .null, []), (105, .iload_n 3, 1, 0, 0, 0, .null, []), (106, .iload 4, 2, 0, 0, 0, .null, []), (108, .iastore, 1, 0, 0, 0, .null, []), (109, .iinc 3 1, 3, 0, 0, 0, .int 1, [])],
  [(112, .iinc 4 1, 3, 0, 0, 0, .int 1, []), (115, .goto (-61), 3, 54, 0, 0, .null, []), (118, .iload_n 3, 1, 0, 0, 0, .null, []), (119, .ireturn, 1, 0, 0, 0, .null, [])]]
def ia_m_X6_findCut : ia_M := ("OffsetBook$Web", ⟨"OffsetBook$Web", "findCut", "(II)I"⟩, prog_8_method_14_code, 5, (some .int), 2, ia_k_X6_findCut, (527, 78, 525, 526), (2, 49))
def ia_k_X6_isReached : List (List ia_E) := [[(0, .aload_n 0, 1, 0, 0, 0, .null, []), (1, .getfield 37, 3, 6, 8, 157, .null, []), (4, .iload_n 1, 1, 0, 0, 0, .null, []), (5, .iaload, 1, 0, 0, 0, .null, []), (6, .iconst (-1), 1, 0, 0, 0, .int (-1), []), (7, .if_icmp .eq 7, 3, 14, 0, 0, .null, []), (10, .iconst 1, 1, 0, 0, 0, .int 1, []), (11, .goto 4, 3, 15, 0, 0, .null, []), (14, .iconst 0, 1, 0, 0, 0, .int 0, []), (15, .ireturn, 1, 1, 0, 0, .null, [])]]
def ia_m_X6_isReached : ia_M := ("OffsetBook$Web", ⟨"OffsetBook$Web", "isReached", "(I)Z"⟩, prog_8_method_15_code, 2, (some .boolean), 1, ia_k_X6_isReached, (533, 78, 532, 31), (0, 0))
def ia_k_X6_flowAlong : List (List ia_E) := [[(0, .iload_n 1, 1, 0, 0, 0, .null, []), (1, .istore_n 2, 1, 0, 0, 0, .null, []), (2, .iconst 0, 1, 0, 0, 0, .int 0, []), (3, .istore_n 3, 1, 0, 0, 0, .null, []), (4, .iload_n 3, 1, 0, 0, 0, .null, []), (5, .bipush 41, 2, 0, 0, 0, .int 41, []), (7, .if_icmp .ge 61, 3, 68, 0, 0, .null, []), (10, .aload_n 0, 1, 0, 0, 0, .null, []), (11, .getfield 40, 3, 6, 9, 158, .null, []), (14, .iload_n 2, 1, 0, 0, 0, .null, []), (15, .iaload, 1, 0, 0, 0, .null, [])],
  [(16, .iconst (-1), 1, 0, 0, 0, .int (-1), []), (17, .if_icmp .eq 51, 3, 68, 0, 0, .null, []), (20, .aload_n 0, 1, 0, 0, 0, .null, []), (21, .getfield 40, 3, 6, 9, 158, .null, []), (24, .iload_n 2, 1, 0, 0, 0, .null, []), (25, .iaload, 1, 0, 0, 0, .null, []), (26, .istore 4, 2, 0, 0, 0, .null, []), (28, .aload_n 0, 1, 0, 0, 0, .null, []), (29, .getfield 43, 3, 6, 10, 159, .null, [])],
  [(32, .iload 4, 2, 0, 0, 0, .null, []), (34, .iconst 1, 1, 0, 0, 0, .int 1, []), (35, .ishr, 1, 0, 0, 0, .null, []), (36, .dup2, 1, 0, 0, 0, .null, []), (37, .iaload, 1, 0, 0, 0, .null, []), (38, .iload 4, 2, 0, 0, 0, .null, []), (40, .iconst 1, 1, 0, 0, 0, .int 1, []), (41, .iand, 1, 0, 0, 0, .null, []), (42, .ifCond .ne 7, 3, 49, 0, 0, .null, []), (45, .iconst 1, 1, 0, 0, 0, .int 1, []), (46, .goto 4, 3, 50, 0, 0, .null, [])],
  [(49, .iconst (-1), 1, 0, 0, 0, .int (-1), []), (50, .iadd, 1, 0, 0, 0, .null, []), (51, .iastore, 1, 0, 0, 0, .null, []), (52, .aload_n 0, 1, 0, 0, 0, .null, []), (53, .getfield 11, 3, 6, 0, 149, .null, []), (56, .iload 4, 2, 0, 0, 0, .null, []), (58, .iconst 1, 1, 0, 0, 0, .int 1, []), (59, .ixor, 1, 0, 0, 0, .null, []), (60, .iaload, 1, 0, 0, 0, .null, []), (61, .istore_n 2, 1, 0, 0, 0, .null, []), (62, .iinc 3 1, 3, 0, 0, 0, .int 1, [])],
  [(65, .goto (-61), 3, 4, 0, 0, .null, []), (68, .return_, 1, 0, 0, 0, .null, [])]]
def ia_m_X6_flowAlong : ia_M := ("OffsetBook$Web", ⟨"OffsetBook$Web", "flowAlong", "(I)V"⟩, prog_8_method_16_code, 5, none, 1, ia_k_X6_flowAlong, (530, 78, 529, 30), (0, 0))
def ia_k_X6_growTrees : List (List ia_E) := [[(0, .aload_n 0, 1, 0, 0, 0, .null, []), (1, .getfield 43, 3, 6, 10, 159, .null, []), (4, .iconst 0, 1, 0, 0, 0, .int 0, []), (5, .invokestatic 56, 3, 173, 2, 146, .null, []), (8, .aload_n 0, 1, 0, 0, 0, .null, []), (9, .invokevirtual 89, 3, 44, 0, 401, .ref 6, []), (12, .iconst 0, 1, 0, 0, 0, .int 0, []), (13, .istore_n 2, 1, 0, 0, 0, .null, []), (14, .iload_n 2, 1, 0, 0, 0, .null, []), (15, .iload_n 1, 1, 0, 0, 0, .null, [])],
  [(16, .if_icmp .ge 44, 3, 60, 0, 0, .null, []), (19, .iload_n 2, 1, 0, 0, 0, .null, []), (20, .bipush 41, 2, 0, 0, 0, .int 41, []), (22, .if_icmp .ge 38, 3, 60, 0, 0, .null, []), (25, .aload_n 0, 1, 0, 0, 0, .null, []), (26, .getfield 46, 3, 6, 11, 160, .null, []), (29, .iload_n 2, 1, 0, 0, 0, .null, []), (30, .iconst 0, 1, 0, 0, 0, .int 0, []), (31, .bastore, 1, 0, 0, 0, .null, [])],
  [(32, .aload_n 0, 1, 0, 0, 0, .null, []), (33, .getfield 50, 3, 6, 12, 161, .null, []), (36, .iload_n 2, 1, 0, 0, 0, .null, []), (37, .iconst 1, 1, 0, 0, 0, .int 1, []), (38, .iastore, 1, 0, 0, 0, .null, []), (39, .aload_n 0, 1, 0, 0, 0, .null, []), (40, .getfield 37, 3, 6, 8, 157, .null, []), (43, .iload_n 2, 1, 0, 0, 0, .null, []), (44, .iaload, 1, 0, 0, 0, .null, []), (45, .iconst (-1), 1, 0, 0, 0, .int (-1), []), (46, .if_icmp .ne 8, 3, 54, 0, 0, .null, [])],
  [(49, .aload_n 0, 1, 0, 0, 0, .null, []), (50, .iload_n 2, 1, 0, 0, 0, .null, []), (51, .invokevirtual 92, 3, 46, 1, 404, .ref 6, []), (54, .iinc 2 1, 3, 0, 0, 0, .int 1, []), (57, .goto (-43), 3, 14, 0, 0, .null, []), (60, .iconst 0, 1, 0, 0, 0, .int 0, []), (61, .istore_n 2, 1, 0, 0, 0, .null, []), (62, .iload_n 2, 1, 0, 0, 0, .null, []), (63, .bipush 120, 2, 0, 0, 0, .int 120, [])],
  [(65, .if_icmp .ge 48, 3, 113, 0, 0, .null, []), (68, .aload_n 0, 1, 0, 0, 0, .null, []), (69, .iload_n 2, 1, 0, 0, 0, .null, []), (70, .invokevirtual 107, 3, 43, 1, 413, .ref 6, []), (73, .ifCond .eq 34, 3, 107, 0, 0, .null, []), (76, .aload_n 0, 1, 0, 0, 0, .null, []), (77, .iload_n 2, 1, 0, 0, 0, .null, []), (78, .invokevirtual 113, 3, 57, 1, 416, .ref 6, [])],
  [(81, .iconst (-1), 1, 0, 0, 0, .int (-1), []), (82, .if_icmp .ne 25, 3, 107, 0, 0, .null, []), (85, .aload_n 0, 1, 0, 0, 0, .null, []), (86, .aload_n 0, 1, 0, 0, 0, .null, []), (87, .getfield 11, 3, 6, 0, 149, .null, []), (90, .iconst 2, 1, 0, 0, 0, .int 2, []), (91, .iload_n 2, 1, 0, 0, 0, .null, []), (92, .imul, 1, 0, 0, 0, .null, []), (93, .iaload, 1, 0, 0, 0, .null, []), (94, .aload_n 0, 1, 0, 0, 0, .null, []), (95, .getfield 11, 3, 6, 0, 149, .null, [])],
  [(98, .iconst 2, 1, 0, 0, 0, .int 2, []), (99, .iload_n 2, 1, 0, 0, 0, .null, []), (100, .imul, 1, 0, 0, 0, .null, []), (101, .iconst 1, 1, 0, 0, 0, .int 1, []), (102, .iadd, 1, 0, 0, 0, .null, []), (103, .iaload, 1, 0, 0, 0, .null, []), (104, .invokevirtual 116, 3, 59, 2, 419, .ref 6, []), (107, .iinc 2 1, 3, 0, 0, 0, .int 1, []), (110, .goto (-48), 3, 62, 0, 0, .null, [])],
  [(113, .aload_n 0, 1, 0, 0, 0, .null, []), (114, .invokevirtual 120, 3, 60, 0, 425, .ref 6, []), (117, .aload_n 0, 1, 0, 0, 0, .null, []), (118, .invokevirtual 123, 3, 61, 0, 428, .ref 6, []), (121, .return_, 1, 0, 0, 0, .null, [])]]
def ia_m_X6_growTrees : ia_M := ("OffsetBook$Web", ⟨"OffsetBook$Web", "growTrees", "(I)V"⟩, prog_8_method_17_code, 3, none, 1, ia_k_X6_growTrees, (400, 78, 398, 399), (2, 49))
def ia_k_X6_lowerEnd : List (List ia_E) := [[(0, .aload_n 0, 1, 0, 0, 0, .null, []), (1, .getfield 11, 3, 6, 0, 149, .null, []), (4, .iconst 2, 1, 0, 0, 0, .int 2, []), (5, .iload_n 1, 1, 0, 0, 0, .null, []), (6, .imul, 1, 0, 0, 0, .null, []), (7, .iaload, 1, 0, 0, 0, .null, []), (8, .istore_n 2, 1, 0, 0, 0, .null, []), (9, .aload_n 0, 1, 0, 0, 0, .null, []), (10, .getfield 11, 3, 6, 0, 149, .null, []), (13, .iconst 2, 1, 0, 0, 0, .int 2, []), (14, .iload_n 1, 1, 0, 0, 0, .null, []), (15, .imul, 1, 0, 0, 0, .null, [])],
  [(16, .iconst 1, 1, 0, 0, 0, .int 1, []), (17, .iadd, 1, 0, 0, 0, .null, []), (18, .iaload, 1, 0, 0, 0, .null, []), (19, .istore_n 3, 1, 0, 0, 0, .null, []), (20, .aload_n 0, 1, 0, 0, 0, .null, []), (21, .getfield 40, 3, 6, 9, 158, .null, []), (24, .iload_n 2, 1, 0, 0, 0, .null, []), (25, .iaload, 1, 0, 0, 0, .null, []), (26, .iconst 2, 1, 0, 0, 0, .int 2, []), (27, .iload_n 1, 1, 0, 0, 0, .null, []), (28, .imul, 1, 0, 0, 0, .null, []), (29, .if_icmp .ne 5, 3, 34, 0, 0, .null, [])],
  [(32, .iload_n 2, 1, 0, 0, 0, .null, []), (33, .ireturn, 1, 0, 0, 0, .null, []), (34, .aload_n 0, 1, 0, 0, 0, .null, []), (35, .getfield 40, 3, 6, 9, 158, .null, []), (38, .iload_n 3, 1, 0, 0, 0, .null, []), (39, .iaload, 1, 0, 0, 0, .null, []), (40, .iconst 2, 1, 0, 0, 0, .int 2, []), (41, .iload_n 1, 1, 0, 0, 0, .null, []), (42, .imul, 1, 0, 0, 0, .null, []), (43, .iconst 1, 1, 0, 0, 0, .int 1, []), (44, .iadd, 1, 0, 0, 0, .null, []), (45, .if_icmp .ne 7, 3, 52, 0, 0, .null, [])],
  [(48, .iload_n 3, 1, 0, 0, 0, .null, []), (49, .goto 4, 3, 53, 0, 0, .null, []), (52, .iconst (-1), 1, 0, 0, 0, .int (-1), []), (53, .ireturn, 1, 0, 0, 0, .null, [])]]
def ia_m_X6_lowerEnd : ia_M := ("OffsetBook$Web", ⟨"OffsetBook$Web", "lowerEnd", "(I)I"⟩, prog_8_method_18_code, 4, (some .int), 1, ia_k_X6_lowerEnd, (418, 78, 417, 23), (0, 0))
def ia_k_X6_above : List (List ia_E) := [[(0, .aload_n 0, 1, 0, 0, 0, .null, []), (1, .getfield 40, 3, 6, 9, 158, .null, []), (4, .iload_n 1, 1, 0, 0, 0, .null, []), (5, .iaload, 1, 0, 0, 0, .null, []), (6, .iconst (-1), 1, 0, 0, 0, .int (-1), []), (7, .if_icmp .ne 7, 3, 14, 0, 0, .null, []), (10, .iload_n 1, 1, 0, 0, 0, .null, []), (11, .goto 16, 3, 27, 0, 0, .null, []), (14, .aload_n 0, 1, 0, 0, 0, .null, []), (15, .getfield 11, 3, 6, 0, 149, .null, [])],
  [(18, .aload_n 0, 1, 0, 0, 0, .null, []), (19, .getfield 40, 3, 6, 9, 158, .null, []), (22, .iload_n 1, 1, 0, 0, 0, .null, []), (23, .iaload, 1, 0, 0, 0, .null, []), (24, .iconst 1, 1, 0, 0, 0, .int 1, []), (25, .ixor, 1, 0, 0, 0, .null, []), (26, .iaload, 1, 0, 0, 0, .null, []), (27, .ireturn, 1, 0, 0, 0, .null, [])]]
def ia_m_X6_above : ia_M := ("OffsetBook$Web", ⟨"OffsetBook$Web", "above", "(I)I"⟩, prog_8_method_19_code, 2, (some .int), 1, ia_k_X6_above, (424, 78, 423, 25), (0, 0))
def ia_k_X6_markRing : List (List ia_E) := [[(0, .iload_n 1, 1, 0, 0, 0, .null, []), (1, .istore_n 3, 1, 0, 0, 0, .null, []), (2, .iload_n 2, 1, 0, 0, 0, .null, []), (3, .istore 4, 2, 0, 0, 0, .null, []), (5, .iconst 0, 1, 0, 0, 0, .int 0, []), (6, .istore 5, 2, 0, 0, 0, .null, []), (8, .iload 5, 2, 0, 0, 0, .null, []), (10, .bipush 82, 2, 0, 0, 0, .int 82, []), (12, .if_icmp .ge 63, 3, 75, 0, 0, .null, []), (15, .iload_n 3, 1, 0, 0, 0, .null, [])],
  [(16, .iload 4, 2, 0, 0, 0, .null, []), (18, .if_icmp .eq 57, 3, 75, 0, 0, .null, []), (21, .aload_n 0, 1, 0, 0, 0, .null, []), (22, .getfield 37, 3, 6, 8, 157, .null, []), (25, .iload_n 3, 1, 0, 0, 0, .null, []), (26, .iaload, 1, 0, 0, 0, .null, []), (27, .aload_n 0, 1, 0, 0, 0, .null, []), (28, .getfield 37, 3, 6, 8, 157, .null, []), (31, .iload 4, 2, 0, 0, 0, .null, [])],
  [(33, .iaload, 1, 0, 0, 0, .null, []), (34, .if_icmp .lt 19, 3, 53, 0, 0, .null, []), (37, .aload_n 0, 1, 0, 0, 0, .null, []), (38, .getfield 46, 3, 6, 11, 160, .null, []), (41, .iload_n 3, 1, 0, 0, 0, .null, []), (42, .iconst 1, 1, 0, 0, 0, .int 1, []), (43, .bastore, 1, 0, 0, 0, .null, []), (44, .aload_n 0, 1, 0, 0, 0, .null, []), (45, .iload_n 3, 1, 0, 0, 0, .null, []), (46, .invokevirtual 126, 3, 58, 1, 422, .ref 6, [])],
  [(49, .istore_n 3, 1, 0, 0, 0, .null, []), (50, .goto 19, 3, 69, 0, 0, .null, []), (53, .aload_n 0, 1, 0, 0, 0, .null, []), (54, .getfield 46, 3, 6, 11, 160, .null, []), (57, .iload 4, 2, 0, 0, 0, .null, []), (59, .iconst 1, 1, 0, 0, 0, .int 1, []), (60, .bastore, 1, 0, 0, 0, .null, []), (61, .aload_n 0, 1, 0, 0, 0, .null, []), (62, .iload 4, 2, 0, 0, 0, .null, [])],
  [(64, .invokevirtual 126, 3, 58, 1, 422, .ref 6, []), (67, .istore 4, 2, 0, 0, 0, .null, []), (69, .iinc 5 1, 3, 0, 0, 0, .int 1, []), (72, .goto (-64), 3, 8, 0, 0, .null, []), (75, .return_, 1, 0, 0, 0, .null, [])]]
def ia_m_X6_markRing : ia_M := ("OffsetBook$Web", ⟨"OffsetBook$Web", "markRing", "(II)V"⟩, prog_8_method_20_code, 6, none, 2, ia_k_X6_markRing, (421, 78, 420, 24), (1, 21))
def ia_k_X6_addUpBelow : List (List ia_E) := [[(0, .aload_n 0, 1, 0, 0, 0, .null, []), (1, .getfield 33, 3, 6, 7, 156, .null, []), (4, .iconst 1, 1, 0, 0, 0, .int 1, []), (5, .isub, 1, 0, 0, 0, .null, []), (6, .istore_n 1, 1, 0, 0, 0, .null, []), (7, .iload_n 1, 1, 0, 0, 0, .null, []), (8, .ifCond .lt 45, 3, 53, 0, 0, .null, []), (11, .aload_n 0, 1, 0, 0, 0, .null, []), (12, .getfield 30, 3, 6, 6, 155, .null, []), (15, .iload_n 1, 1, 0, 0, 0, .null, [])],
  [(16, .iaload, 1, 0, 0, 0, .null, []), (17, .istore_n 2, 1, 0, 0, 0, .null, []), (18, .aload_n 0, 1, 0, 0, 0, .null, []), (19, .getfield 40, 3, 6, 9, 158, .null, []), (22, .iload_n 2, 1, 0, 0, 0, .null, []), (23, .iaload, 1, 0, 0, 0, .null, []), (24, .iconst (-1), 1, 0, 0, 0, .int (-1), []), (25, .if_icmp .eq 22, 3, 47, 0, 0, .null, []), (28, .aload_n 0, 1, 0, 0, 0, .null, []), (29, .getfield 50, 3, 6, 12, 161, .null, [])],
  [(32, .aload_n 0, 1, 0, 0, 0, .null, []), (33, .iload_n 2, 1, 0, 0, 0, .null, []), (34, .invokevirtual 126, 3, 58, 1, 422, .ref 6, []), (37, .dup2, 1, 0, 0, 0, .null, []), (38, .iaload, 1, 0, 0, 0, .null, []), (39, .aload_n 0, 1, 0, 0, 0, .null, []), (40, .getfield 50, 3, 6, 12, 161, .null, []), (43, .iload_n 2, 1, 0, 0, 0, .null, []), (44, .iaload, 1, 0, 0, 0, .null, []), (45, .iadd, 1, 0, 0, 0, .null, []), (46, .iastore, 1, 0, 0, 0, .null, []), (47, .iinc 1 (-1), 3, 0, 0, 0, .int (-1), [])],
  [(50, .goto (-43), 3, 7, 0, 0, .null, []), (53, .return_, 1, 0, 0, 0, .null, [])]]
def ia_m_X6_addUpBelow : ia_M := ("OffsetBook$Web", ⟨"OffsetBook$Web", "addUpBelow", "()V"⟩, prog_8_method_21_code, 3, none, 0, ia_k_X6_addUpBelow, (427, 78, 426, 26), (1, 21))
def ia_k_X6_fillRely : List (List ia_E) := [[(0, .aload_n 0, 1, 0, 0, 0, .null, []), (1, .getfield 53, 3, 6, 13, 162, .null, []), (4, .iconst 0, 1, 0, 0, 0, .int 0, []), (5, .invokestatic 56, 3, 173, 2, 146, .null, []), (8, .iconst 0, 1, 0, 0, 0, .int 0, []), (9, .istore_n 1, 1, 0, 0, 0, .null, []), (10, .iconst 0, 1, 0, 0, 0, .int 0, []), (11, .istore_n 2, 1, 0, 0, 0, .null, []), (12, .iload_n 2, 1, 0, 0, 0, .null, []), (13, .aload_n 0, 1, 0, 0, 0, .null, []), (14, .getfield 33, 3, 6, 7, 156, .null, [])],
  [(17, .if_icmp .ge 73, 3, 90, 0, 0, .null, []), (20, .aload_n 0, 1, 0, 0, 0, .null, []), (21, .getfield 30, 3, 6, 6, 155, .null, []), (24, .iload_n 2, 1, 0, 0, 0, .null, []), (25, .iaload, 1, 0, 0, 0, .null, []), (26, .istore_n 3, 1, 0, 0, 0, .null, []), (27, .aload_n 0, 1, 0, 0, 0, .null, []), (28, .getfield 40, 3, 6, 9, 158, .null, []), (31, .iload_n 3, 1, 0, 0, 0, .null, [])],
  [(32, .iaload, 1, 0, 0, 0, .null, []), (33, .iconst (-1), 1, 0, 0, 0, .int (-1), []), (34, .if_icmp .ne 8, 3, 42, 0, 0, .null, []), (37, .iload_n 3, 1, 0, 0, 0, .null, []), (38, .istore_n 1, 1, 0, 0, 0, .null, []), (39, .goto 45, 3, 84, 0, 0, .null, []), (42, .aload_n 0, 1, 0, 0, 0, .null, []), (43, .getfield 46, 3, 6, 11, 160, .null, []), (46, .iload_n 3, 1, 0, 0, 0, .null, []), (47, .baload, 1, 0, 0, 0, .null, [])],
  [(48, .ifCond .ne 36, 3, 84, 0, 0, .null, []), (51, .aload_n 0, 1, 0, 0, 0, .null, []), (52, .getfield 53, 3, 6, 13, 162, .null, []), (55, .aload_n 0, 1, 0, 0, 0, .null, []), (56, .getfield 40, 3, 6, 9, 158, .null, []), (59, .iload_n 3, 1, 0, 0, 0, .null, []), (60, .iaload, 1, 0, 0, 0, .null, []), (61, .iconst 1, 1, 0, 0, 0, .int 1, []), (62, .ishr, 1, 0, 0, 0, .null, []), (63, .aload_n 0, 1, 0, 0, 0, .null, [])],
  [(64, .getfield 50, 3, 6, 12, 161, .null, []), (67, .iload_n 3, 1, 0, 0, 0, .null, []), (68, .iaload, 1, 0, 0, 0, .null, []), (69, .aload_n 0, 1, 0, 0, 0, .null, []), (70, .getfield 50, 3, 6, 12, 161, .null, []), (73, .iload_n 1, 1, 0, 0, 0, .null, []), (74, .iaload, 1, 0, 0, 0, .null, []), (75, .aload_n 0, 1, 0, 0, 0, .null, []), (76, .getfield 50, 3, 6, 12, 161, .null, []), (79, .iload_n 3, 1, 0, 0, 0, .null, [])],
  [(80, .iaload, 1, 0, 0, 0, .null, []), (81, .isub, 1, 0, 0, 0, .null, []), (82, .imul, 1, 0, 0, 0, .null, []), (83, .iastore, 1, 0, 0, 0, .null, []), (84, .iinc 2 1, 3, 0, 0, 0, .int 1, []), (87, .goto (-75), 3, 12, 0, 0, .null, []), (90, .return_, 1, 0, 0, 0, .null, [])]]
def ia_m_X6_fillRely : ia_M := ("OffsetBook$Web", ⟨"OffsetBook$Web", "fillRely", "()V"⟩, prog_8_method_22_code, 4, none, 0, ia_k_X6_fillRely, (430, 78, 429, 27), (1, 23))
def ia_k_X6_relyOn : List (List ia_E) := [[(0, .aload_n 0, 1, 0, 0, 0, .null, []), (1, .getfield 53, 3, 6, 13, 162, .null, []), (4, .iload_n 1, 1, 0, 0, 0, .null, []), (5, .iaload, 1, 0, 0, 0, .null, []), (6, .ireturn, 1, 0, 0, 0, .null, [])]]
def ia_m_X6_relyOn : ia_M := ("OffsetBook$Web", ⟨"OffsetBook$Web", "relyOn", "(I)I"⟩, prog_8_method_23_code, 2, (some .int), 1, ia_k_X6_relyOn, (434, 78, 432, 433), (0, 0))
def ia_k_X7_feed : List (List ia_E) := [[(0, .aload_n 0, 1, 0, 0, 0, .null, []), (1, .getfield 12, 3, 7, 0, 199, .null, []), (4, .getfield 61, 3, 3, 0, 3, .null, []), (7, .astore 6, 2, 0, 0, 0, .null, []), (9, .aload 6, 2, 0, 0, 0, .null, []), (11, .getfield 65, 3, 4, 1, 1, .null, []), (14, .bipush 20, 2, 0, 0, 0, .int 20, [])],
  [(16, .iadd, 1, 0, 0, 0, .null, []), (17, .sipush 300, 3, 0, 0, 0, .int 300, []), (20, .if_icmp .le 5, 3, 25, 0, 0, .null, []), (23, .iconst (-1), 1, 0, 0, 0, .int (-1), []), (24, .ireturn, 1, 0, 0, 0, .null, []), (25, .aload 6, 2, 0, 0, 0, .null, []), (27, .iload_n 1, 1, 0, 0, 0, .null, []), (28, .invokevirtual 71, 3, 29, 1, 219, .ref 4, []), (31, .aload 6, 2, 0, 0, 0, .null, [])],
  [(33, .iload_n 2, 1, 0, 0, 0, .null, []), (34, .invokevirtual 71, 3, 29, 1, 219, .ref 4, []), (37, .aload 6, 2, 0, 0, 0, .null, []), (39, .iload_n 3, 1, 0, 0, 0, .null, []), (40, .invokevirtual 71, 3, 29, 1, 219, .ref 4, []), (43, .aload 6, 2, 0, 0, 0, .null, []), (45, .iload 4, 2, 0, 0, 0, .null, []), (47, .invokevirtual 71, 3, 29, 1, 219, .ref 4, [])],
  [(50, .aload 6, 2, 0, 0, 0, .null, []), (52, .iload 5, 2, 0, 0, 0, .null, []), (54, .invokevirtual 71, 3, 29, 1, 219, .ref 4, []), (57, .aload 6, 2, 0, 0, 0, .null, []), (59, .getfield 65, 3, 4, 1, 1, .null, []), (62, .ireturn, 1, 0, 0, 0, .null, [])]]
def ia_m_X7_feed : ia_M := ("OffsetBook", ⟨"OffsetBook", "feed", "(IIIII)I"⟩, prog_1_method_2_code, 7, (some .int), 5, ia_k_X7_feed, (218, 73, 216, 217), (1, 22))
def ia_k_X7_end : List (List ia_E) := [[(0, .iload_n 1, 1, 0, 0, 0, .null, []), (1, .ifCond .lt 17, 3, 18, 0, 0, .null, []), (4, .iload_n 1, 1, 0, 0, 0, .null, []), (5, .aload_n 0, 1, 0, 0, 0, .null, []), (6, .getfield 12, 3, 7, 0, 199, .null, []), (9, .getfield 61, 3, 3, 0, 3, .null, []), (12, .getfield 65, 3, 4, 1, 1, .null, []), (15, .if_icmp .le 5, 3, 20, 0, 0, .null, [])],
  [(18, .iconst (-1), 1, 0, 0, 0, .int (-1), []), (19, .ireturn, 1, 0, 0, 0, .null, []), (20, .aload_n 0, 1, 0, 0, 0, .null, []), (21, .getfield 12, 3, 7, 0, 199, .null, []), (24, .getfield 61, 3, 3, 0, 3, .null, []), (27, .iload_n 1, 1, 0, 0, 0, .null, []), (28, .putfield 65, 3, 4, 1, 1, .null, []), (31, .iload_n 1, 1, 0, 0, 0, .null, [])],
  [(32, .ireturn, 1, 0, 0, 0, .null, [])]]
def ia_m_X7_end : ia_M := ("OffsetBook", ⟨"OffsetBook", "end", "(I)I"⟩, prog_1_method_3_code, 2, (some .int), 1, ia_k_X7_end, (226, 73, 224, 225), (0, 0))
def ia_k_X7_tell : List (List ia_E) := [[(0, .aload_n 0, 1, 0, 0, 0, .null, []), (1, .getfield 12, 3, 7, 0, 199, .null, []), (4, .aload_n 0, 1, 0, 0, 0, .null, []), (5, .getfield 21, 3, 7, 1, 200, .null, []), (8, .invokevirtual 75, 3, 18, 1, 231, .ref 3, []), (11, .istore_n 1, 1, 0, 0, 0, .null, []), (12, .aload_n 0, 1, 0, 0, 0, .null, []), (13, .getfield 12, 3, 7, 0, 199, .null, [])],
  [(16, .getfield 61, 3, 3, 0, 3, .null, []), (19, .iconst 0, 1, 0, 0, 0, .int 0, []), (20, .putfield 65, 3, 4, 1, 1, .null, []), (23, .iload_n 1, 1, 0, 0, 0, .null, []), (24, .ifCond .eq 8, 3, 32, 0, 0, .null, []), (27, .bipush (-2), 2, 0, 0, 0, .int (-2), []), (29, .iload_n 1, 1, 0, 0, 0, .null, []), (30, .isub, 1, 0, 0, 0, .null, []), (31, .ireturn, 1, 0, 0, 0, .null, [])],
  [(32, .aload_n 0, 1, 0, 0, 0, .null, []), (33, .getfield 42, 3, 7, 4, 203, .null, []), (36, .iconst (-1), 1, 0, 0, 0, .int (-1), []), (37, .aload_n 0, 1, 0, 0, 0, .null, []), (38, .getfield 21, 3, 7, 1, 200, .null, []), (41, .invokevirtual 79, 3, 0, 2, 306, .ref 0, []), (44, .aload_n 0, 1, 0, 0, 0, .null, []), (45, .getfield 21, 3, 7, 1, 200, .null, [])],
  [(48, .aload_n 0, 1, 0, 0, 0, .null, []), (49, .getfield 12, 3, 7, 0, 199, .null, []), (52, .getfield 83, 3, 3, 1, 4, .null, []), (55, .putfield 86, 3, 5, 6, 21, .null, []), (58, .aload_n 0, 1, 0, 0, 0, .null, []), (59, .getfield 21, 3, 7, 1, 200, .null, []), (62, .aload_n 0, 1, 0, 0, 0, .null, []), (63, .getfield 12, 3, 7, 0, 199, .null, [])],
  [(66, .getfield 87, 3, 3, 2, 5, .null, []), (69, .putfield 90, 3, 5, 7, 26, .null, []), (72, .aload_n 0, 1, 0, 0, 0, .null, []), (73, .invokevirtual 91, 3, 91, 0, 313, .ref 7, []), (76, .aload_n 0, 1, 0, 0, 0, .null, []), (77, .getfield 21, 3, 7, 1, 200, .null, [])],
  [(80, .getfield 90, 3, 5, 7, 26, .null, []), (83, .ireturn, 1, 0, 0, 0, .null, [])]]
def ia_m_X7_tell : ia_M := ("OffsetBook", ⟨"OffsetBook", "tell", "()I"⟩, prog_1_method_4_code, 2, (some .int), 0, ia_k_X7_tell, (230, 73, 228, 229), (6, 148))
def ia_k_X7_test : List (List ia_E) := [[(0, .aload_n 0, 1, 0, 0, 0, .null, []), (1, .getfield 12, 3, 7, 0, 199, .null, []), (4, .aload_n 0, 1, 0, 0, 0, .null, []), (5, .getfield 21, 3, 7, 1, 200, .null, []), (8, .invokevirtual 94, 3, 19, 1, 356, .ref 3, []), (11, .istore_n 1, 1, 0, 0, 0, .null, []), (12, .aload_n 0, 1, 0, 0, 0, .null, []), (13, .getfield 12, 3, 7, 0, 199, .null, [])],
  [(16, .getfield 61, 3, 3, 0, 3, .null, []), (19, .iconst 0, 1, 0, 0, 0, .int 0, []), (20, .putfield 65, 3, 4, 1, 1, .null, []), (23, .iload_n 1, 1, 0, 0, 0, .null, []), (24, .ifCond .eq 8, 3, 32, 0, 0, .null, []), (27, .bipush (-2), 2, 0, 0, 0, .int (-2), []), (29, .iload_n 1, 1, 0, 0, 0, .null, []), (30, .isub, 1, 0, 0, 0, .null, []), (31, .ireturn, 1, 0, 0, 0, .null, [])],
  [(32, .aload_n 0, 1, 0, 0, 0, .null, []), (33, .getfield 28, 3, 7, 2, 201, .null, []), (36, .aload_n 0, 1, 0, 0, 0, .null, []), (37, .getfield 21, 3, 7, 1, 200, .null, []), (40, .aload_n 0, 1, 0, 0, 0, .null, []), (41, .getfield 21, 3, 7, 1, 200, .null, []), (44, .getfield 90, 3, 5, 7, 26, .null, []), (47, .invokevirtual 97, 3, 3, 2, 360, .ref 1, [])],
  [(50, .ireturn, 1, 0, 0, 0, .null, [])]]
def ia_m_X7_test : ia_M := ("OffsetBook", ⟨"OffsetBook", "test", "()I"⟩, prog_1_method_5_code, 2, (some .int), 0, ia_k_X7_test, (355, 73, 353, 354), (6, 147))
def ia_k_X7_retract : List (List ia_E) := [[(0, .aload_n 0, 1, 0, 0, 0, .null, []), (1, .iload_n 1, 1, 0, 0, 0, .null, []), (2, .invokevirtual 101, 3, 89, 1, 365, .ref 7, []), (5, .ifCond .eq 15, 3, 20, 0, 0, .null, []), (8, .aload_n 0, 1, 0, 0, 0, .null, []), (9, .getfield 21, 3, 7, 1, 200, .null, []), (12, .getfield 105, 3, 5, 5, 18, .null, []), (15, .iload_n 1, 1, 0, 0, 0, .null, [])],
  [(16, .baload, 1, 0, 0, 0, .null, []), (17, .ifCond .eq 5, 3, 22, 0, 0, .null, []), (20, .iconst (-1), 1, 0, 0, 0, .int (-1), []), (21, .ireturn, 1, 0, 0, 0, .null, []), (22, .aload_n 0, 1, 0, 0, 0, .null, []), (23, .iload_n 1, 1, 0, 0, 0, .null, []), (24, .invokevirtual 108, 3, 92, 1, 368, .ref 7, []), (27, .ireturn, 1, 0, 0, 0, .null, [])]]
def ia_m_X7_retract : ia_M := ("OffsetBook", ⟨"OffsetBook", "retract", "(I)I"⟩, prog_1_method_6_code, 2, (some .int), 1, ia_k_X7_retract, (364, 73, 362, 363), (6, 142))
def ia_k_X7_restore : List (List ia_E) := [[(0, .aload_n 0, 1, 0, 0, 0, .null, []), (1, .iload_n 1, 1, 0, 0, 0, .null, []), (2, .invokevirtual 101, 3, 89, 1, 365, .ref 7, []), (5, .ifCond .eq 15, 3, 20, 0, 0, .null, []), (8, .aload_n 0, 1, 0, 0, 0, .null, []), (9, .getfield 21, 3, 7, 1, 200, .null, []), (12, .getfield 105, 3, 5, 5, 18, .null, []), (15, .iload_n 1, 1, 0, 0, 0, .null, [])],
  [(16, .baload, 1, 0, 0, 0, .null, []), (17, .ifCond .ne 5, 3, 22, 0, 0, .null, []), (20, .iconst (-1), 1, 0, 0, 0, .int (-1), []), (21, .ireturn, 1, 0, 0, 0, .null, []), (22, .aload_n 0, 1, 0, 0, 0, .null, []), (23, .iload_n 1, 1, 0, 0, 0, .null, []), (24, .invokevirtual 108, 3, 92, 1, 368, .ref 7, []), (27, .ireturn, 1, 0, 0, 0, .null, [])]]
def ia_m_X7_restore : ia_M := ("OffsetBook", ⟨"OffsetBook", "restore", "(I)I"⟩, prog_1_method_7_code, 2, (some .int), 1, ia_k_X7_restore, (378, 73, 376, 377), (6, 142))
def ia_k_X7_undo : List (List ia_E) := [[(0, .aload_n 0, 1, 0, 0, 0, .null, []), (1, .getfield 42, 3, 7, 4, 203, .null, []), (4, .getfield 112, 3, 0, 4, 33, .null, []), (7, .ifCond .ne 5, 3, 12, 0, 0, .null, []), (10, .iconst (-1), 1, 0, 0, 0, .int (-1), []), (11, .ireturn, 1, 0, 0, 0, .null, []), (12, .aload_n 0, 1, 0, 0, 0, .null, []), (13, .getfield 42, 3, 7, 4, 203, .null, [])],
  [(16, .aload_n 0, 1, 0, 0, 0, .null, []), (17, .getfield 21, 3, 7, 1, 200, .null, []), (20, .invokevirtual 115, 3, 1, 1, 383, .ref 0, []), (23, .aload_n 0, 1, 0, 0, 0, .null, []), (24, .invokevirtual 91, 3, 91, 0, 313, .ref 7, []), (27, .aload_n 0, 1, 0, 0, 0, .null, []), (28, .getfield 42, 3, 7, 4, 203, .null, []), (31, .getfield 112, 3, 0, 4, 33, .null, [])],
  [(34, .ireturn, 1, 0, 0, 0, .null, [])]]
def ia_m_X7_undo : ia_M := ("OffsetBook", ⟨"OffsetBook", "undo", "()I"⟩, prog_1_method_8_code, 1, (some .int), 0, ia_k_X7_undo, (382, 73, 380, 381), (5, 121))
def ia_k_X7_statement : List (List ia_E) := [[(0, .aload_n 0, 1, 0, 0, 0, .null, []), (1, .iload_n 1, 1, 0, 0, 0, .null, []), (2, .invokevirtual 101, 3, 89, 1, 365, .ref 7, []), (5, .ifCond .ne 5, 3, 10, 0, 0, .null, []), (8, .iconst (-1), 1, 0, 0, 0, .int (-1), []), (9, .ireturn, 1, 0, 0, 0, .null, []), (10, .iload_n 2, 1, 0, 0, 0, .null, []), (11, .tableswitch 83 0 4 #[33, 43, 53, 63, 77], 33, 94, 0, 0, .null, [(0, 44), (1, 54), (2, 64), (3, 74), (4, 88)])],
  [],
  [(44, .aload_n 0, 1, 0, 0, 0, .null, []), (45, .getfield 28, 3, 7, 2, 201, .null, [])],
  [(48, .getfield 119, 3, 1, 0, 28, .null, []), (51, .iload_n 1, 1, 0, 0, 0, .null, []), (52, .iaload, 1, 0, 0, 0, .null, []), (53, .ireturn, 1, 0, 0, 0, .null, []), (54, .aload_n 0, 1, 0, 0, 0, .null, []), (55, .getfield 21, 3, 7, 1, 200, .null, []), (58, .getfield 123, 3, 5, 2, 10, .null, []), (61, .iload_n 1, 1, 0, 0, 0, .null, []), (62, .iaload, 1, 0, 0, 0, .null, []), (63, .ireturn, 1, 0, 0, 0, .null, [])],
  [(64, .aload_n 0, 1, 0, 0, 0, .null, []), (65, .getfield 21, 3, 7, 1, 200, .null, []), (68, .getfield 126, 3, 5, 3, 13, .null, []), (71, .iload_n 1, 1, 0, 0, 0, .null, []), (72, .iaload, 1, 0, 0, 0, .null, []), (73, .ireturn, 1, 0, 0, 0, .null, []), (74, .aload_n 0, 1, 0, 0, 0, .null, []), (75, .iload_n 1, 1, 0, 0, 0, .null, []), (76, .invokevirtual 129, 3, 94, 1, 391, .ref 7, []), (79, .ifCond .eq 7, 3, 86, 0, 0, .null, [])],
  [(82, .iconst 1, 1, 0, 0, 0, .int 1, []), (83, .goto 4, 3, 87, 0, 0, .null, []), (86, .iconst 0, 1, 0, 0, 0, .int 0, []), (87, .ireturn, 1, 0, 0, 0, .null, []), (88, .aload_n 0, 1, 0, 0, 0, .null, []), (89, .iload_n 1, 1, 0, 0, 0, .null, []), (90, .invokevirtual 132, 3, 93, 1, 394, .ref 7, []), (93, .ireturn, 1, 0, 0, 0, .null, []), (94, .iconst (-1), 1, 0, 0, 0, .int (-1), []), (95, .ireturn, 1, 0, 0, 0, .null, [])]]
def ia_m_X7_statement : ia_M := ("OffsetBook", ⟨"OffsetBook", "statement", "(II)I"⟩, prog_1_method_9_code, 3, (some .int), 2, ia_k_X7_statement, (390, 73, 388, 389), (5, 113))
def ia_k_X7_amount : List (List ia_E) := [[(0, .aload_n 0, 1, 0, 0, 0, .null, []), (1, .iload_n 1, 1, 0, 0, 0, .null, []), (2, .invokevirtual 101, 3, 89, 1, 365, .ref 7, []), (5, .ifCond .eq 15, 3, 20, 0, 0, .null, []), (8, .aload_n 0, 1, 0, 0, 0, .null, []), (9, .getfield 21, 3, 7, 1, 200, .null, []), (12, .getfield 135, 3, 5, 4, 15, .null, []), (15, .iload_n 1, 1, 0, 0, 0, .null, [])],
  [(16, .laload, 1, 0, 0, 0, .null, []), (17, .goto 6, 3, 23, 0, 0, .null, []), (20, .ldc2_w 139, 3, 0, 0, 439, .long (-9223372036854775808), []), (23, .lreturn, 1, 0, 0, 0, .null, [])]]
def ia_m_X7_amount : ia_M := ("OffsetBook", ⟨"OffsetBook", "amount", "(I)J"⟩, prog_1_method_10_code, 2, (some .long), 1, ia_k_X7_amount, (438, 73, 436, 437), (1, 21))
def ia_k_X7_gauge : List (List ia_E) := [[(0, .aload_n 0, 1, 0, 0, 0, .null, []), (1, .getfield 12, 3, 7, 0, 199, .null, []), (4, .getfield 61, 3, 3, 0, 3, .null, []), (7, .astore_n 1, 1, 0, 0, 0, .null, []), (8, .aload_n 0, 1, 0, 0, 0, .null, []), (9, .getfield 21, 3, 7, 1, 200, .null, []), (12, .aload_n 1, 1, 0, 0, 0, .null, []), (13, .iconst 0, 1, 0, 0, 0, .int 0, []), (14, .aload_n 1, 1, 0, 0, 0, .null, []), (15, .getfield 65, 3, 4, 1, 1, .null, [])],
  [(18, .aload_n 0, 1, 0, 0, 0, .null, []), (19, .getfield 21, 3, 7, 1, 200, .null, []), (22, .getfield 86, 3, 5, 6, 21, .null, []), (25, .invokevirtual 141, 3, 36, 4, 444, .ref 5, []), (28, .istore_n 2, 1, 0, 0, 0, .null, []), (29, .aload_n 1, 1, 0, 0, 0, .null, []), (30, .iconst 0, 1, 0, 0, 0, .int 0, []), (31, .putfield 65, 3, 4, 1, 1, .null, [])],
  [(34, .iload_n 2, 1, 0, 0, 0, .null, []), (35, .ireturn, 1, 0, 0, 0, .null, [])]]
def ia_m_X7_gauge : ia_M := ("OffsetBook", ⟨"OffsetBook", "gauge", "()I"⟩, prog_1_method_11_code, 3, (some .int), 0, ia_k_X7_gauge, (443, 73, 441, 442), (2, 49))
def ia_k_X7_letter : List (List ia_E) := [[(0, .aload_n 0, 1, 0, 0, 0, .null, []), (1, .iload_n 1, 1, 0, 0, 0, .null, []), (2, .invokevirtual 145, 3, 90, 1, 449, .ref 7, []), (5, .ifCond .eq 21, 3, 26, 0, 0, .null, []), (8, .iload_n 2, 1, 0, 0, 0, .null, []), (9, .iconst (-1), 1, 0, 0, 0, .int (-1), []), (10, .if_icmp .lt 16, 3, 26, 0, 0, .null, []), (13, .iload_n 2, 1, 0, 0, 0, .null, []), (14, .aload_n 0, 1, 0, 0, 0, .null, []), (15, .getfield 21, 3, 7, 1, 200, .null, [])],
  [(18, .getfield 148, 3, 5, 1, 7, .null, []), (21, .iload_n 1, 1, 0, 0, 0, .null, []), (22, .iaload, 1, 0, 0, 0, .null, []), (23, .if_icmp .lt 5, 3, 28, 0, 0, .null, []), (26, .iconst (-1), 1, 0, 0, 0, .int (-1), []), (27, .ireturn, 1, 0, 0, 0, .null, []), (28, .iload_n 2, 1, 0, 0, 0, .null, []), (29, .iconst (-1), 1, 0, 0, 0, .int (-1), []), (30, .if_icmp .ne 15, 3, 45, 0, 0, .null, [])],
  [(33, .aload_n 0, 1, 0, 0, 0, .null, []), (34, .getfield 21, 3, 7, 1, 200, .null, []), (37, .getfield 148, 3, 5, 1, 7, .null, []), (40, .iload_n 1, 1, 0, 0, 0, .null, []), (41, .iaload, 1, 0, 0, 0, .null, []), (42, .goto 22, 3, 64, 0, 0, .null, []), (45, .aload_n 0, 1, 0, 0, 0, .null, []), (46, .getfield 21, 3, 7, 1, 200, .null, [])],
  [(49, .getfield 151, 3, 5, 0, 6, .null, []), (52, .iload_n 1, 1, 0, 0, 0, .null, []), (53, .bipush 6, 2, 0, 0, 0, .int 6, []), (55, .imul, 1, 0, 0, 0, .null, []), (56, .iload_n 2, 1, 0, 0, 0, .null, []), (57, .iadd, 1, 0, 0, 0, .null, []), (58, .baload, 1, 0, 0, 0, .null, []), (59, .bipush 97, 2, 0, 0, 0, .int 97, []), (61, .isub, 1, 0, 0, 0, .null, []), (62, .iconst 1, 1, 0, 0, 0, .int 1, []), (63, .iadd, 1, 0, 0, 0, .null, [])],
  [(64, .ireturn, 1, 0, 0, 0, .null, [])]]
def ia_m_X7_letter : ia_M := ("OffsetBook", ⟨"OffsetBook", "letter", "(II)I"⟩, prog_1_method_12_code, 3, (some .int), 2, ia_k_X7_letter, (448, 73, 446, 447), (1, 21))
def ia_k_X7_difference : List (List ia_E) := [[(0, .aload_n 0, 1, 0, 0, 0, .null, []), (1, .iload_n 1, 1, 0, 0, 0, .null, []), (2, .invokevirtual 145, 3, 90, 1, 449, .ref 7, []), (5, .ifCond .eq 32, 3, 37, 0, 0, .null, []), (8, .aload_n 0, 1, 0, 0, 0, .null, []), (9, .iload_n 2, 1, 0, 0, 0, .null, []), (10, .invokevirtual 145, 3, 90, 1, 449, .ref 7, []), (13, .ifCond .eq 24, 3, 37, 0, 0, .null, [])],
  [(16, .aload_n 0, 1, 0, 0, 0, .null, []), (17, .getfield 28, 3, 7, 2, 201, .null, []), (20, .getfield 155, 3, 1, 1, 29, .null, []), (23, .iload_n 1, 1, 0, 0, 0, .null, []), (24, .iaload, 1, 0, 0, 0, .null, []), (25, .aload_n 0, 1, 0, 0, 0, .null, []), (26, .getfield 28, 3, 7, 2, 201, .null, []), (29, .getfield 155, 3, 1, 1, 29, .null, [])],
  [(32, .iload_n 2, 1, 0, 0, 0, .null, []), (33, .iaload, 1, 0, 0, 0, .null, []), (34, .if_icmp .eq 7, 3, 41, 0, 0, .null, []), (37, .ldc2_w 139, 3, 0, 0, 439, .long (-9223372036854775808), []), (40, .lreturn, 1, 0, 0, 0, .null, []), (41, .aload_n 0, 1, 0, 0, 0, .null, []), (42, .getfield 28, 3, 7, 2, 201, .null, []), (45, .getfield 158, 3, 1, 2, 30, .null, [])],
  [(48, .iload_n 1, 1, 0, 0, 0, .null, []), (49, .laload, 1, 0, 0, 0, .null, []), (50, .aload_n 0, 1, 0, 0, 0, .null, []), (51, .getfield 28, 3, 7, 2, 201, .null, []), (54, .getfield 158, 3, 1, 2, 30, .null, []), (57, .iload_n 2, 1, 0, 0, 0, .null, []), (58, .laload, 1, 0, 0, 0, .null, []), (59, .lsub, 1, 0, 0, 0, .null, []), (60, .lreturn, 1, 0, 0, 0, .null, [])]]
def ia_m_X7_difference : ia_M := ("OffsetBook", ⟨"OffsetBook", "difference", "(II)J"⟩, prog_1_method_13_code, 3, (some .long), 2, ia_k_X7_difference, (455, 73, 453, 454), (1, 21))
def ia_k_X7_offset : List (List ia_E) := [[(0, .aload_n 0, 1, 0, 0, 0, .null, []), (1, .iload_n 1, 1, 0, 0, 0, .null, []), (2, .invokevirtual 145, 3, 90, 1, 449, .ref 7, []), (5, .ifCond .eq 15, 3, 20, 0, 0, .null, []), (8, .aload_n 0, 1, 0, 0, 0, .null, []), (9, .getfield 28, 3, 7, 2, 201, .null, []), (12, .getfield 158, 3, 1, 2, 30, .null, []), (15, .iload_n 1, 1, 0, 0, 0, .null, [])],
  [(16, .laload, 1, 0, 0, 0, .null, []), (17, .goto 6, 3, 23, 0, 0, .null, []), (20, .ldc2_w 139, 3, 0, 0, 439, .long (-9223372036854775808), []), (23, .lreturn, 1, 0, 0, 0, .null, [])]]
def ia_m_X7_offset : ia_M := ("OffsetBook", ⟨"OffsetBook", "offset", "(I)J"⟩, prog_1_method_14_code, 2, (some .long), 1, ia_k_X7_offset, (459, 73, 457, 458), (1, 21))
def ia_k_X7_group : List (List ia_E) := [[(0, .aload_n 0, 1, 0, 0, 0, .null, []), (1, .iload_n 1, 1, 0, 0, 0, .null, []), (2, .invokevirtual 145, 3, 90, 1, 449, .ref 7, []), (5, .ifCond .ne 5, 3, 10, 0, 0, .null, []), (8, .iconst (-1), 1, 0, 0, 0, .int (-1), []), (9, .ireturn, 1, 0, 0, 0, .null, []), (10, .iload_n 2, 1, 0, 0, 0, .null, []), (11, .lookupswitch 52 #[(0, 25), (1, 35)], 25, 63, 0, 0, .null, [(0, 36), (1, 46)])],
  [],
  [(36, .aload_n 0, 1, 0, 0, 0, .null, []), (37, .getfield 28, 3, 7, 2, 201, .null, []), (40, .getfield 155, 3, 1, 1, 29, .null, []), (43, .iload_n 1, 1, 0, 0, 0, .null, []), (44, .iaload, 1, 0, 0, 0, .null, []), (45, .ireturn, 1, 0, 0, 0, .null, []), (46, .aload_n 0, 1, 0, 0, 0, .null, []), (47, .getfield 28, 3, 7, 2, 201, .null, [])],
  [(50, .aload_n 0, 1, 0, 0, 0, .null, []), (51, .getfield 28, 3, 7, 2, 201, .null, []), (54, .getfield 155, 3, 1, 1, 29, .null, []), (57, .iload_n 1, 1, 0, 0, 0, .null, []), (58, .iaload, 1, 0, 0, 0, .null, []), (59, .invokevirtual 161, 3, 8, 1, 464, .ref 1, []), (62, .ireturn, 1, 0, 0, 0, .null, []), (63, .iconst (-1), 1, 0, 0, 0, .int (-1), [])],
  [(64, .ireturn, 1, 0, 0, 0, .null, [])]]
def ia_m_X7_group : ia_M := ("OffsetBook", ⟨"OffsetBook", "group", "(II)I"⟩, prog_1_method_15_code, 3, (some .int), 2, ia_k_X7_group, (463, 73, 461, 462), (1, 23))
def ia_k_X7_order : List (List ia_E) := [[(0, .aload_n 0, 1, 0, 0, 0, .null, []), (1, .iload_n 1, 1, 0, 0, 0, .null, []), (2, .invokevirtual 145, 3, 90, 1, 449, .ref 7, []), (5, .ifCond .eq 7, 3, 12, 0, 0, .null, []), (8, .iload_n 2, 1, 0, 0, 0, .null, []), (9, .ifCond .ge 5, 3, 14, 0, 0, .null, []), (12, .iconst (-1), 1, 0, 0, 0, .int (-1), []), (13, .ireturn, 1, 0, 0, 0, .null, []), (14, .aload_n 0, 1, 0, 0, 0, .null, []), (15, .getfield 28, 3, 7, 2, 201, .null, [])],
  [(18, .getfield 155, 3, 1, 1, 29, .null, []), (21, .iload_n 1, 1, 0, 0, 0, .null, []), (22, .iaload, 1, 0, 0, 0, .null, []), (23, .istore_n 3, 1, 0, 0, 0, .null, []), (24, .iconst 0, 1, 0, 0, 0, .int 0, []), (25, .istore 4, 2, 0, 0, 0, .null, []), (27, .iload 4, 2, 0, 0, 0, .null, []), (29, .aload_n 0, 1, 0, 0, 0, .null, []), (30, .getfield 21, 3, 7, 1, 200, .null, [])],
  [(33, .getfield 86, 3, 5, 6, 21, .null, []), (36, .if_icmp .ge 39, 3, 75, 0, 0, .null, []), (39, .aload_n 0, 1, 0, 0, 0, .null, []), (40, .getfield 28, 3, 7, 2, 201, .null, []), (43, .getfield 155, 3, 1, 1, 29, .null, []), (46, .iload 4, 2, 0, 0, 0, .null, [])],
  [(48, .iaload, 1, 0, 0, 0, .null, []), (49, .iload_n 3, 1, 0, 0, 0, .null, []), (50, .if_icmp .ne 19, 3, 69, 0, 0, .null, []), (53, .aload_n 0, 1, 0, 0, 0, .null, []), (54, .getfield 28, 3, 7, 2, 201, .null, []), (57, .iload 4, 2, 0, 0, 0, .null, []), (59, .invokevirtual 164, 3, 9, 1, 472, .ref 1, []), (62, .iload_n 2, 1, 0, 0, 0, .null, []), (63, .if_icmp .ne 6, 3, 69, 0, 0, .null, [])],
  [(66, .iload 4, 2, 0, 0, 0, .null, []), (68, .ireturn, 1, 0, 0, 0, .null, []), (69, .iinc 4 1, 3, 0, 0, 0, .int 1, []), (72, .goto (-45), 3, 27, 0, 0, .null, []), (75, .bipush (-2), 2, 0, 0, 0, .int (-2), []), (77, .ireturn, 1, 0, 0, 0, .null, [])]]
def ia_m_X7_order : ia_M := ("OffsetBook", ⟨"OffsetBook", "order", "(II)I"⟩, prog_1_method_16_code, 5, (some .int), 2, ia_k_X7_order, (471, 73, 469, 470), (1, 24))
def ia_k_X7_span : List (List ia_E) := [[(0, .aload_n 0, 1, 0, 0, 0, .null, []), (1, .iload_n 1, 1, 0, 0, 0, .null, []), (2, .invokevirtual 145, 3, 90, 1, 449, .ref 7, []), (5, .ifCond .ne 7, 3, 12, 0, 0, .null, []), (8, .ldc2_w 139, 3, 0, 0, 439, .long (-9223372036854775808), []), (11, .lreturn, 1, 0, 0, 0, .null, []), (12, .aload_n 0, 1, 0, 0, 0, .null, []), (13, .getfield 28, 3, 7, 2, 201, .null, [])],
  [(16, .getfield 155, 3, 1, 1, 29, .null, []), (19, .iload_n 1, 1, 0, 0, 0, .null, []), (20, .iaload, 1, 0, 0, 0, .null, []), (21, .istore_n 2, 1, 0, 0, 0, .null, []), (22, .aload_n 0, 1, 0, 0, 0, .null, []), (23, .getfield 28, 3, 7, 2, 201, .null, []), (26, .iload_n 2, 1, 0, 0, 0, .null, []), (27, .invokevirtual 167, 3, 6, 1, 480, .ref 1, []), (30, .aload_n 0, 1, 0, 0, 0, .null, []), (31, .getfield 28, 3, 7, 2, 201, .null, [])],
  [(34, .iload_n 2, 1, 0, 0, 0, .null, []), (35, .invokevirtual 171, 3, 7, 1, 481, .ref 1, []), (38, .lsub, 1, 0, 0, 0, .null, []), (39, .lreturn, 1, 0, 0, 0, .null, [])]]
def ia_m_X7_span : ia_M := ("OffsetBook", ⟨"OffsetBook", "span", "(I)J"⟩, prog_1_method_17_code, 3, (some .long), 1, ia_k_X7_span, (479, 73, 477, 478), (2, 47))
def ia_k_X7_mean : List (List ia_E) := [[(0, .aload_n 0, 1, 0, 0, 0, .null, []), (1, .iload_n 1, 1, 0, 0, 0, .null, []), (2, .invokevirtual 145, 3, 90, 1, 449, .ref 7, []), (5, .ifCond .eq 25, 3, 30, 0, 0, .null, []), (8, .aload_n 0, 1, 0, 0, 0, .null, []), (9, .getfield 28, 3, 7, 2, 201, .null, []), (12, .aload_n 0, 1, 0, 0, 0, .null, []), (13, .getfield 28, 3, 7, 2, 201, .null, [])],
  [(16, .getfield 155, 3, 1, 1, 29, .null, []), (19, .iload_n 1, 1, 0, 0, 0, .null, []), (20, .iaload, 1, 0, 0, 0, .null, []), (21, .invokevirtual 174, 3, 10, 1, 486, .ref 1, []), (24, .invokestatic 178, 3, 102, 1, 490, .null, []), (27, .goto 6, 3, 33, 0, 0, .null, []), (30, .ldc2_w 139, 3, 0, 0, 439, .long (-9223372036854775808), [])],
  [(33, .lreturn, 1, 0, 0, 0, .null, [])]]
def ia_m_X7_mean : ia_M := ("OffsetBook", ⟨"OffsetBook", "mean", "(I)J"⟩, prog_1_method_18_code, 2, (some .long), 1, ia_k_X7_mean, (485, 73, 483, 484), (1, 27))
def ia_k_X7_twos : List (List ia_E) := [[(0, .lload_n 1, 1, 0, 0, 0, .null, []), (1, .lconst 0, 1, 0, 0, 0, .long 0, []), (2, .lcmp, 1, 0, 0, 0, .null, []), (3, .ifCond .ge 7, 3, 10, 0, 0, .null, []), (6, .iconst (-1), 1, 0, 0, 0, .int (-1), []), (7, .goto 11, 3, 18, 0, 0, .null, []), (10, .aload_n 0, 1, 0, 0, 0, .null, []), (11, .getfield 28, 3, 7, 2, 201, .null, []), (14, .lload_n 1, 1, 0, 0, 0, .null, []), (15, .invokevirtual 182, 3, 11, 1, 502, .ref 1, [])],
  [(18, .ireturn, 1, 0, 0, 0, .null, [])]]
def ia_m_X7_twos : ia_M := ("OffsetBook", ⟨"OffsetBook", "twos", "(J)I"⟩, prog_1_method_19_code, 3, (some .int), 1, ia_k_X7_twos, (501, 73, 499, 500), (2, 48))
def ia_k_X7_chain : List (List ia_E) := [[(0, .aload_n 0, 1, 0, 0, 0, .null, []), (1, .iload_n 1, 1, 0, 0, 0, .null, []), (2, .invokevirtual 145, 3, 90, 1, 449, .ref 7, []), (5, .ifCond .eq 16, 3, 21, 0, 0, .null, []), (8, .aload_n 0, 1, 0, 0, 0, .null, []), (9, .iload_n 2, 1, 0, 0, 0, .null, []), (10, .invokevirtual 145, 3, 90, 1, 449, .ref 7, []), (13, .ifCond .eq 8, 3, 21, 0, 0, .null, [])],
  [(16, .iload_n 3, 1, 0, 0, 0, .null, []), (17, .iconst (-1), 1, 0, 0, 0, .int (-1), []), (18, .if_icmp .ge 5, 3, 23, 0, 0, .null, []), (21, .iconst (-1), 1, 0, 0, 0, .int (-1), []), (22, .ireturn, 1, 0, 0, 0, .null, []), (23, .aload_n 0, 1, 0, 0, 0, .null, []), (24, .getfield 35, 3, 7, 3, 202, .null, []), (27, .iload_n 1, 1, 0, 0, 0, .null, []), (28, .iload_n 2, 1, 0, 0, 0, .null, []), (29, .invokevirtual 186, 3, 48, 2, 513, .ref 6, [])],
  [(32, .istore 4, 2, 0, 0, 0, .null, []), (34, .iload 4, 2, 0, 0, 0, .null, []), (36, .iconst (-1), 1, 0, 0, 0, .int (-1), []), (37, .if_icmp .eq 9, 3, 46, 0, 0, .null, []), (40, .iload_n 3, 1, 0, 0, 0, .null, []), (41, .iload 4, 2, 0, 0, 0, .null, []), (43, .if_icmp .lt 6, 3, 49, 0, 0, .null, []), (46, .bipush (-2), 2, 0, 0, 0, .int (-2), [])],
  [(48, .ireturn, 1, 0, 0, 0, .null, []), (49, .iload_n 3, 1, 0, 0, 0, .null, []), (50, .iconst (-1), 1, 0, 0, 0, .int (-1), []), (51, .if_icmp .ne 8, 3, 59, 0, 0, .null, []), (54, .iload 4, 2, 0, 0, 0, .null, []), (56, .goto 12, 3, 68, 0, 0, .null, []), (59, .aload_n 0, 1, 0, 0, 0, .null, []), (60, .getfield 35, 3, 7, 3, 202, .null, []), (63, .getfield 190, 3, 6, 4, 31, .null, [])],
  [(66, .iload_n 3, 1, 0, 0, 0, .null, []), (67, .iaload, 1, 0, 0, 0, .null, []), (68, .ireturn, 1, 0, 0, 0, .null, [])]]
def ia_m_X7_chain : ia_M := ("OffsetBook", ⟨"OffsetBook", "chain", "(III)I"⟩, prog_1_method_20_code, 5, (some .int), 3, ia_k_X7_chain, (512, 73, 510, 511), (3, 75))
def ia_k_X7_cut : List (List ia_E) := [[(0, .aload_n 0, 1, 0, 0, 0, .null, []), (1, .iload_n 1, 1, 0, 0, 0, .null, []), (2, .invokevirtual 101, 3, 89, 1, 365, .ref 7, []), (5, .ifCond .eq 21, 3, 26, 0, 0, .null, []), (8, .aload_n 0, 1, 0, 0, 0, .null, []), (9, .getfield 28, 3, 7, 2, 201, .null, []), (12, .getfield 119, 3, 1, 0, 28, .null, []), (15, .iload_n 1, 1, 0, 0, 0, .null, [])],
  [(16, .iaload, 1, 0, 0, 0, .null, []), (17, .iconst 2, 1, 0, 0, 0, .int 2, []), (18, .if_icmp .ne 8, 3, 26, 0, 0, .null, []), (21, .iload_n 2, 1, 0, 0, 0, .null, []), (22, .iconst (-1), 1, 0, 0, 0, .int (-1), []), (23, .if_icmp .ge 5, 3, 28, 0, 0, .null, []), (26, .iconst (-1), 1, 0, 0, 0, .int (-1), []), (27, .ireturn, 1, 0, 0, 0, .null, []), (28, .aload_n 0, 1, 0, 0, 0, .null, []), (29, .getfield 35, 3, 7, 3, 202, .null, [])],
  [(32, .aload_n 0, 1, 0, 0, 0, .null, []), (33, .getfield 21, 3, 7, 1, 200, .null, []), (36, .getfield 123, 3, 5, 2, 10, .null, []), (39, .iload_n 1, 1, 0, 0, 0, .null, []), (40, .iaload, 1, 0, 0, 0, .null, []), (41, .aload_n 0, 1, 0, 0, 0, .null, []), (42, .getfield 21, 3, 7, 1, 200, .null, []), (45, .getfield 126, 3, 5, 3, 13, .null, [])],
  [(48, .iload_n 1, 1, 0, 0, 0, .null, []), (49, .iaload, 1, 0, 0, 0, .null, []), (50, .invokevirtual 193, 3, 53, 2, 524, .ref 6, []), (53, .istore_n 3, 1, 0, 0, 0, .null, []), (54, .iload_n 2, 1, 0, 0, 0, .null, []), (55, .iload_n 3, 1, 0, 0, 0, .null, []), (56, .if_icmp .lt 6, 3, 62, 0, 0, .null, []), (59, .bipush (-2), 2, 0, 0, 0, .int (-2), []), (61, .ireturn, 1, 0, 0, 0, .null, []), (62, .iload_n 2, 1, 0, 0, 0, .null, []), (63, .iconst (-1), 1, 0, 0, 0, .int (-1), [])],
  [(64, .if_icmp .ne 7, 3, 71, 0, 0, .null, []), (67, .iload_n 3, 1, 0, 0, 0, .null, []), (68, .goto 12, 3, 80, 0, 0, .null, []), (71, .aload_n 0, 1, 0, 0, 0, .null, []), (72, .getfield 35, 3, 7, 3, 202, .null, []), (75, .getfield 190, 3, 6, 4, 31, .null, []), (78, .iload_n 2, 1, 0, 0, 0, .null, []), (79, .iaload, 1, 0, 0, 0, .null, [])],
  [(80, .ireturn, 1, 0, 0, 0, .null, [])]]
def ia_m_X7_cut : ia_M := ("OffsetBook", ⟨"OffsetBook", "cut", "(II)I"⟩, prog_1_method_21_code, 4, (some .int), 2, ia_k_X7_cut, (523, 73, 521, 522), (3, 73))
def ia_k_X7_blame : List (List ia_E) := [[(0, .iload_n 1, 1, 0, 0, 0, .null, []), (1, .ifCond .eq 10, 3, 11, 0, 0, .null, []), (4, .iload_n 1, 1, 0, 0, 0, .null, []), (5, .iconst 1, 1, 0, 0, 0, .int 1, []), (6, .if_icmp .eq 5, 3, 11, 0, 0, .null, []), (9, .iconst (-1), 1, 0, 0, 0, .int (-1), []), (10, .ireturn, 1, 0, 0, 0, .null, []), (11, .aload_n 0, 1, 0, 0, 0, .null, []), (12, .getfield 35, 3, 7, 3, 202, .null, []), (15, .invokevirtual 196, 3, 50, 0, 538, .ref 6, [])],
  [(18, .iconst 0, 1, 0, 0, 0, .int 0, []), (19, .istore_n 2, 1, 0, 0, 0, .null, []), (20, .iload_n 2, 1, 0, 0, 0, .null, []), (21, .aload_n 0, 1, 0, 0, 0, .null, []), (22, .getfield 21, 3, 7, 1, 200, .null, []), (25, .getfield 90, 3, 5, 7, 26, .null, []), (28, .if_icmp .ge 47, 3, 75, 0, 0, .null, []), (31, .aload_n 0, 1, 0, 0, 0, .null, [])],
  [(32, .getfield 28, 3, 7, 2, 201, .null, []), (35, .getfield 119, 3, 1, 0, 28, .null, []), (38, .iload_n 2, 1, 0, 0, 0, .null, []), (39, .iaload, 1, 0, 0, 0, .null, []), (40, .iconst 2, 1, 0, 0, 0, .int 2, []), (41, .if_icmp .ne 28, 3, 69, 0, 0, .null, []), (44, .aload_n 0, 1, 0, 0, 0, .null, []), (45, .getfield 35, 3, 7, 3, 202, .null, [])],
  [(48, .aload_n 0, 1, 0, 0, 0, .null, []), (49, .getfield 21, 3, 7, 1, 200, .null, []), (52, .getfield 123, 3, 5, 2, 10, .null, []), (55, .iload_n 2, 1, 0, 0, 0, .null, []), (56, .iaload, 1, 0, 0, 0, .null, []), (57, .aload_n 0, 1, 0, 0, 0, .null, []), (58, .getfield 21, 3, 7, 1, 200, .null, []), (61, .getfield 126, 3, 5, 3, 13, .null, [])],
  [(64, .iload_n 2, 1, 0, 0, 0, .null, []), (65, .iaload, 1, 0, 0, 0, .null, []), (66, .invokevirtual 199, 3, 51, 2, 542, .ref 6, []), (69, .iinc 2 1, 3, 0, 0, 0, .int 1, []), (72, .goto (-52), 3, 20, 0, 0, .null, []), (75, .aload_n 0, 1, 0, 0, 0, .null, []), (76, .getfield 35, 3, 7, 3, 202, .null, []), (79, .invokevirtual 203, 3, 52, 0, 547, .ref 6, [])],
  [(82, .istore_n 2, 1, 0, 0, 0, .null, []), (83, .iload_n 2, 1, 0, 0, 0, .null, []), (84, .iconst (-1), 1, 0, 0, 0, .int (-1), []), (85, .if_icmp .ne 6, 3, 91, 0, 0, .null, []), (88, .bipush (-2), 2, 0, 0, 0, .int (-2), []), (90, .ireturn, 1, 0, 0, 0, .null, []), (91, .iload_n 1, 1, 0, 0, 0, .null, []), (92, .ifCond .ne 7, 3, 99, 0, 0, .null, []), (95, .iload_n 2, 1, 0, 0, 0, .null, [])],
  [(96, .goto 12, 3, 108, 0, 0, .null, []), (99, .aload_n 0, 1, 0, 0, 0, .null, []), (100, .getfield 35, 3, 7, 3, 202, .null, []), (103, .getfield 207, 3, 6, 5, 32, .null, []), (106, .iload_n 2, 1, 0, 0, 0, .null, []), (107, .iaload, 1, 0, 0, 0, .null, []), (108, .ireturn, 1, 0, 0, 0, .null, [])]]
def ia_m_X7_blame : ia_M := ("OffsetBook", ⟨"OffsetBook", "blame", "(I)I"⟩, prog_1_method_22_code, 3, (some .int), 1, ia_k_X7_blame, (537, 73, 535, 536), (4, 99))
def ia_k_X7_pin : List (List ia_E) := [[(0, .iload_n 1, 1, 0, 0, 0, .null, []), (1, .iload_n 2, 1, 0, 0, 0, .null, []), (2, .invokestatic 210, 3, 21, 2, 555, .null, []), (5, .ifCond .eq 11, 3, 16, 0, 0, .null, []), (8, .aload_n 0, 1, 0, 0, 0, .null, []), (9, .iload_n 3, 1, 0, 0, 0, .null, []), (10, .invokevirtual 101, 3, 89, 1, 365, .ref 7, []), (13, .ifCond .ne 5, 3, 18, 0, 0, .null, [])],
  [(16, .iconst (-1), 1, 0, 0, 0, .int (-1), []), (17, .ireturn, 1, 0, 0, 0, .null, []), (18, .aload_n 0, 1, 0, 0, 0, .null, []), (19, .getfield 21, 3, 7, 1, 200, .null, []), (22, .getfield 126, 3, 5, 3, 13, .null, []), (25, .iload_n 3, 1, 0, 0, 0, .null, []), (26, .iaload, 1, 0, 0, 0, .null, []), (27, .ifCond .ne 7, 3, 34, 0, 0, .null, []), (30, .iconst 0, 1, 0, 0, 0, .int 0, []), (31, .goto 4, 3, 35, 0, 0, .null, [])],
  [(34, .iconst 1, 1, 0, 0, 0, .int 1, []), (35, .istore 4, 2, 0, 0, 0, .null, []), (37, .aload_n 0, 1, 0, 0, 0, .null, []), (38, .getfield 49, 3, 7, 5, 204, .null, []), (41, .iload_n 1, 1, 0, 0, 0, .null, []), (42, .iload_n 2, 1, 0, 0, 0, .null, []), (43, .iload_n 3, 1, 0, 0, 0, .null, []), (44, .iload 4, 2, 0, 0, 0, .null, []), (46, .invokevirtual 214, 3, 16, 4, 558, .ref 2, [])],
  [(49, .ifCond .eq 8, 3, 57, 0, 0, .null, []), (52, .iload 4, 2, 0, 0, 0, .null, []), (54, .goto 5, 3, 59, 0, 0, .null, []), (57, .bipush (-2), 2, 0, 0, 0, .int (-2), []), (59, .ireturn, 1, 0, 0, 0, .null, [])]]
def ia_m_X7_pin : ia_M := ("OffsetBook", ⟨"OffsetBook", "pin", "(III)I"⟩, prog_1_method_23_code, 5, (some .int), 3, ia_k_X7_pin, (554, 73, 552, 553), (1, 24))
def ia_k_X7_pinned : List (List ia_E) := [[(0, .iload_n 1, 1, 0, 0, 0, .null, []), (1, .iload_n 2, 1, 0, 0, 0, .null, []), (2, .invokestatic 210, 3, 21, 2, 555, .null, []), (5, .ifCond .eq 15, 3, 20, 0, 0, .null, []), (8, .aload_n 0, 1, 0, 0, 0, .null, []), (9, .getfield 49, 3, 7, 5, 204, .null, []), (12, .iload_n 1, 1, 0, 0, 0, .null, []), (13, .iload_n 2, 1, 0, 0, 0, .null, []), (14, .invokevirtual 218, 3, 17, 2, 566, .ref 2, [])],
  [(17, .goto 4, 3, 21, 0, 0, .null, []), (20, .iconst (-1), 1, 0, 0, 0, .int (-1), []), (21, .ireturn, 1, 0, 0, 0, .null, [])]]
def ia_m_X7_pinned : ia_M := ("OffsetBook", ⟨"OffsetBook", "pinned", "(II)I"⟩, prog_1_method_24_code, 3, (some .int), 2, ia_k_X7_pinned, (565, 73, 563, 564), (1, 22))
def ia_k_X7_image : List (List ia_E) := [[(0, .iload_n 1, 1, 0, 0, 0, .null, []), (1, .ifCond .lt 12, 3, 13, 0, 0, .null, []), (4, .iload_n 1, 1, 0, 0, 0, .null, []), (5, .aload_n 0, 1, 0, 0, 0, .null, []), (6, .getfield 53, 3, 7, 6, 205, .null, []), (9, .arraylength, 1, 0, 0, 0, .null, []), (10, .if_icmp .lt 5, 3, 15, 0, 0, .null, []), (13, .iconst (-1), 1, 0, 0, 0, .int (-1), []), (14, .ireturn, 1, 0, 0, 0, .null, []), (15, .aload_n 0, 1, 0, 0, 0, .null, [])],
  [(16, .getfield 53, 3, 7, 6, 205, .null, []), (19, .iload_n 1, 1, 0, 0, 0, .null, []), (20, .aaload, 1, 0, 0, 0, .null, []), (21, .aload_n 0, 1, 0, 0, 0, .null, []), (22, .getfield 21, 3, 7, 1, 200, .null, []), (25, .invokevirtual 221, 3, 40, 1, 574, .ref 5, []), (28, .aload_n 0, 1, 0, 0, 0, .null, []), (29, .getfield 57, 3, 7, 7, 206, .null, [])],
  [(32, .iload_n 1, 1, 0, 0, 0, .null, []), (33, .iconst 1, 1, 0, 0, 0, .int 1, []), (34, .bastore, 1, 0, 0, 0, .null, []), (35, .aload_n 0, 1, 0, 0, 0, .null, []), (36, .getfield 21, 3, 7, 1, 200, .null, []), (39, .getfield 90, 3, 5, 7, 26, .null, []), (42, .ireturn, 1, 0, 0, 0, .null, [])]]
def ia_m_X7_image : ia_M := ("OffsetBook", ⟨"OffsetBook", "image", "(I)I"⟩, prog_1_method_25_code, 2, (some .int), 1, ia_k_X7_image, (573, 73, 571, 572), (2, 52))
def ia_k_X7_back : List (List ia_E) := [[(0, .iload_n 1, 1, 0, 0, 0, .null, []), (1, .ifCond .lt 21, 3, 22, 0, 0, .null, []), (4, .iload_n 1, 1, 0, 0, 0, .null, []), (5, .aload_n 0, 1, 0, 0, 0, .null, []), (6, .getfield 53, 3, 7, 6, 205, .null, []), (9, .arraylength, 1, 0, 0, 0, .null, []), (10, .if_icmp .ge 12, 3, 22, 0, 0, .null, []), (13, .aload_n 0, 1, 0, 0, 0, .null, []), (14, .getfield 57, 3, 7, 7, 206, .null, [])],
  [(17, .iload_n 1, 1, 0, 0, 0, .null, []), (18, .baload, 1, 0, 0, 0, .null, []), (19, .ifCond .ne 5, 3, 24, 0, 0, .null, []), (22, .iconst (-1), 1, 0, 0, 0, .int (-1), []), (23, .ireturn, 1, 0, 0, 0, .null, []), (24, .aload_n 0, 1, 0, 0, 0, .null, []), (25, .getfield 21, 3, 7, 1, 200, .null, []), (28, .aload_n 0, 1, 0, 0, 0, .null, []), (29, .getfield 53, 3, 7, 6, 205, .null, [])],
  [(32, .iload_n 1, 1, 0, 0, 0, .null, []), (33, .aaload, 1, 0, 0, 0, .null, []), (34, .invokevirtual 221, 3, 40, 1, 574, .ref 5, []), (37, .aload_n 0, 1, 0, 0, 0, .null, []), (38, .getfield 42, 3, 7, 4, 203, .null, []), (41, .iconst 0, 1, 0, 0, 0, .int 0, []), (42, .putfield 112, 3, 0, 4, 33, .null, []), (45, .aload_n 0, 1, 0, 0, 0, .null, []), (46, .invokevirtual 91, 3, 91, 0, 313, .ref 7, [])],
  [(49, .aload_n 0, 1, 0, 0, 0, .null, []), (50, .getfield 21, 3, 7, 1, 200, .null, []), (53, .getfield 90, 3, 5, 7, 26, .null, []), (56, .ireturn, 1, 0, 0, 0, .null, [])]]
def ia_m_X7_back : ia_M := ("OffsetBook", ⟨"OffsetBook", "back", "(I)I"⟩, prog_1_method_26_code, 2, (some .int), 1, ia_k_X7_back, (582, 73, 580, 581), (5, 121))
def ia_k_X7_count : List (List ia_E) := [[(0, .iload_n 1, 1, 0, 0, 0, .null, []), (1, .tableswitch 206 0 11 #[63, 71, 79, 95, 111, 127, 143, 159, 174, 182, 187, 195], 63, 207, 0, 0, .null, [(0, 64), (1, 72), (2, 80), (3, 96), (4, 112), (5, 128), (6, 144), (7, 160), (8, 175), (9, 183), (10, 188), (11, 196)])],
  [],
  [],
  [],
  [(64, .aload_n 0, 1, 0, 0, 0, .null, []), (65, .getfield 21, 3, 7, 1, 200, .null, []), (68, .getfield 86, 3, 5, 6, 21, .null, []), (71, .ireturn, 1, 0, 0, 0, .null, []), (72, .aload_n 0, 1, 0, 0, 0, .null, []), (73, .getfield 21, 3, 7, 1, 200, .null, []), (76, .getfield 90, 3, 5, 7, 26, .null, []), (79, .ireturn, 1, 0, 0, 0, .null, [])],
  [(80, .aload_n 0, 1, 0, 0, 0, .null, []), (81, .getfield 28, 3, 7, 2, 201, .null, []), (84, .iconst 0, 1, 0, 0, 0, .int 0, []), (85, .aload_n 0, 1, 0, 0, 0, .null, []), (86, .getfield 21, 3, 7, 1, 200, .null, []), (89, .getfield 90, 3, 5, 7, 26, .null, []), (92, .invokevirtual 224, 3, 14, 2, 371, .ref 1, []), (95, .ireturn, 1, 0, 0, 0, .null, [])],
  [(96, .aload_n 0, 1, 0, 0, 0, .null, []), (97, .getfield 28, 3, 7, 2, 201, .null, []), (100, .iconst 1, 1, 0, 0, 0, .int 1, []), (101, .aload_n 0, 1, 0, 0, 0, .null, []), (102, .getfield 21, 3, 7, 1, 200, .null, []), (105, .getfield 90, 3, 5, 7, 26, .null, []), (108, .invokevirtual 224, 3, 14, 2, 371, .ref 1, []), (111, .ireturn, 1, 0, 0, 0, .null, [])],
  [(112, .aload_n 0, 1, 0, 0, 0, .null, []), (113, .getfield 28, 3, 7, 2, 201, .null, []), (116, .iconst 2, 1, 0, 0, 0, .int 2, []), (117, .aload_n 0, 1, 0, 0, 0, .null, []), (118, .getfield 21, 3, 7, 1, 200, .null, []), (121, .getfield 90, 3, 5, 7, 26, .null, []), (124, .invokevirtual 224, 3, 14, 2, 371, .ref 1, []), (127, .ireturn, 1, 0, 0, 0, .null, [])],
  [(128, .aload_n 0, 1, 0, 0, 0, .null, []), (129, .getfield 28, 3, 7, 2, 201, .null, []), (132, .iconst 3, 1, 0, 0, 0, .int 3, []), (133, .aload_n 0, 1, 0, 0, 0, .null, []), (134, .getfield 21, 3, 7, 1, 200, .null, []), (137, .getfield 90, 3, 5, 7, 26, .null, []), (140, .invokevirtual 224, 3, 14, 2, 371, .ref 1, []), (143, .ireturn, 1, 0, 0, 0, .null, [])],
  [(144, .aload_n 0, 1, 0, 0, 0, .null, []), (145, .getfield 28, 3, 7, 2, 201, .null, []), (148, .iconst 4, 1, 0, 0, 0, .int 4, []), (149, .aload_n 0, 1, 0, 0, 0, .null, []), (150, .getfield 21, 3, 7, 1, 200, .null, []), (153, .getfield 90, 3, 5, 7, 26, .null, []), (156, .invokevirtual 224, 3, 14, 2, 371, .ref 1, []), (159, .ireturn, 1, 0, 0, 0, .null, [])],
  [(160, .aload_n 0, 1, 0, 0, 0, .null, []), (161, .getfield 28, 3, 7, 2, 201, .null, []), (164, .aload_n 0, 1, 0, 0, 0, .null, []), (165, .getfield 21, 3, 7, 1, 200, .null, []), (168, .getfield 86, 3, 5, 6, 21, .null, []), (171, .invokevirtual 227, 3, 13, 1, 587, .ref 1, []), (174, .ireturn, 1, 0, 0, 0, .null, []), (175, .aload_n 0, 1, 0, 0, 0, .null, [])],
  [(176, .getfield 28, 3, 7, 2, 201, .null, []), (179, .invokevirtual 230, 3, 12, 0, 591, .ref 1, []), (182, .ireturn, 1, 0, 0, 0, .null, []), (183, .aload_n 0, 1, 0, 0, 0, .null, []), (184, .invokevirtual 233, 3, 95, 0, 595, .ref 7, []), (187, .ireturn, 1, 0, 0, 0, .null, []), (188, .aload_n 0, 1, 0, 0, 0, .null, []), (189, .getfield 42, 3, 7, 4, 203, .null, [])],
  [(192, .getfield 112, 3, 0, 4, 33, .null, []), (195, .ireturn, 1, 0, 0, 0, .null, []), (196, .aload_n 0, 1, 0, 0, 0, .null, []), (197, .getfield 12, 3, 7, 0, 199, .null, []), (200, .getfield 61, 3, 3, 0, 3, .null, []), (203, .getfield 65, 3, 4, 1, 1, .null, []), (206, .ireturn, 1, 0, 0, 0, .null, []), (207, .iconst (-1), 1, 0, 0, 0, .int (-1), [])],
  [(208, .ireturn, 1, 0, 0, 0, .null, [])]]
def ia_m_X7_count : ia_M := ("OffsetBook", ⟨"OffsetBook", "count", "(I)I"⟩, prog_1_method_27_code, 2, (some .int), 1, ia_k_X7_count, (586, 73, 584, 585), (4, 93))
def ia_k_X7_isStatement : List (List ia_E) := [[(0, .iload_n 1, 1, 0, 0, 0, .null, []), (1, .ifCond .lt 18, 3, 19, 0, 0, .null, []), (4, .iload_n 1, 1, 0, 0, 0, .null, []), (5, .aload_n 0, 1, 0, 0, 0, .null, []), (6, .getfield 21, 3, 7, 1, 200, .null, []), (9, .getfield 90, 3, 5, 7, 26, .null, []), (12, .if_icmp .ge 7, 3, 19, 0, 0, .null, []), (15, .iconst 1, 1, 0, 0, 0, .int 1, [])],
  [(16, .goto 4, 3, 20, 0, 0, .null, []), (19, .iconst 0, 1, 0, 0, 0, .int 0, []), (20, .ireturn, 1, 1, 0, 0, .null, [])]]
def ia_m_X7_isStatement : ia_M := ("OffsetBook", ⟨"OffsetBook", "isStatement", "(I)Z"⟩, prog_1_method_28_code, 2, (some .boolean), 1, ia_k_X7_isStatement, (367, 73, 366, 14), (0, 0))
def ia_k_X7_isGauge : List (List ia_E) := [[(0, .iload_n 1, 1, 0, 0, 0, .null, []), (1, .ifCond .lt 18, 3, 19, 0, 0, .null, []), (4, .iload_n 1, 1, 0, 0, 0, .null, []), (5, .aload_n 0, 1, 0, 0, 0, .null, []), (6, .getfield 21, 3, 7, 1, 200, .null, []), (9, .getfield 86, 3, 5, 6, 21, .null, []), (12, .if_icmp .ge 7, 3, 19, 0, 0, .null, []), (15, .iconst 1, 1, 0, 0, 0, .int 1, [])],
  [(16, .goto 4, 3, 20, 0, 0, .null, []), (19, .iconst 0, 1, 0, 0, 0, .int 0, []), (20, .ireturn, 1, 1, 0, 0, .null, [])]]
def ia_m_X7_isGauge : ia_M := ("OffsetBook", ⟨"OffsetBook", "isGauge", "(I)Z"⟩, prog_1_method_29_code, 2, (some .boolean), 1, ia_k_X7_isGauge, (451, 73, 450, 28), (0, 0))
def ia_k_X7_judgeAnew : List (List ia_E) := [[(0, .aload_n 0, 1, 0, 0, 0, .null, []), (1, .getfield 28, 3, 7, 2, 201, .null, []), (4, .aload_n 0, 1, 0, 0, 0, .null, []), (5, .getfield 21, 3, 7, 1, 200, .null, []), (8, .invokevirtual 236, 3, 2, 1, 316, .ref 1, []), (11, .aload_n 0, 1, 0, 0, 0, .null, []), (12, .getfield 35, 3, 7, 3, 202, .null, []), (15, .aload_n 0, 1, 0, 0, 0, .null, [])],
  [(16, .getfield 21, 3, 7, 1, 200, .null, []), (19, .aload_n 0, 1, 0, 0, 0, .null, []), (20, .getfield 28, 3, 7, 2, 201, .null, []), (23, .invokevirtual 239, 3, 41, 2, 345, .ref 6, []), (26, .return_, 1, 0, 0, 0, .null, [])]]
def ia_m_X7_judgeAnew : ia_M := ("OffsetBook", ⟨"OffsetBook", "judgeAnew", "()V"⟩, prog_1_method_30_code, 1, none, 0, ia_k_X7_judgeAnew, (315, 73, 314, 10), (4, 101))
def ia_k_X7_turn : List (List ia_E) := [[(0, .aload_n 0, 1, 0, 0, 0, .null, []), (1, .getfield 42, 3, 7, 4, 203, .null, []), (4, .iload_n 1, 1, 0, 0, 0, .null, []), (5, .aload_n 0, 1, 0, 0, 0, .null, []), (6, .getfield 21, 3, 7, 1, 200, .null, []), (9, .invokevirtual 79, 3, 0, 2, 306, .ref 0, []), (12, .aload_n 0, 1, 0, 0, 0, .null, []), (13, .getfield 21, 3, 7, 1, 200, .null, [])],
  [(16, .getfield 105, 3, 5, 5, 18, .null, []), (19, .iload_n 1, 1, 0, 0, 0, .null, []), (20, .aload_n 0, 1, 0, 0, 0, .null, []), (21, .getfield 21, 3, 7, 1, 200, .null, []), (24, .getfield 105, 3, 5, 5, 18, .null, []), (27, .iload_n 1, 1, 0, 0, 0, .null, []), (28, .baload, 1, 0, 0, 0, .null, []), (29, .ifCond .ne 7, 3, 36, 0, 0, .null, [])],
  [(32, .iconst 1, 1, 0, 0, 0, .int 1, []), (33, .goto 4, 3, 37, 0, 0, .null, []), (36, .iconst 0, 1, 0, 0, 0, .int 0, []), (37, .bastore, 1, 0, 0, 0, .null, []), (38, .aload_n 0, 1, 0, 0, 0, .null, []), (39, .invokevirtual 91, 3, 91, 0, 313, .ref 7, []), (42, .aload_n 0, 1, 0, 0, 0, .null, []), (43, .getfield 28, 3, 7, 2, 201, .null, []), (46, .iconst 0, 1, 0, 0, 0, .int 0, []), (47, .aload_n 0, 1, 0, 0, 0, .null, [])],
  [(48, .getfield 21, 3, 7, 1, 200, .null, []), (51, .getfield 90, 3, 5, 7, 26, .null, []), (54, .invokevirtual 224, 3, 14, 2, 371, .ref 1, []), (57, .aload_n 0, 1, 0, 0, 0, .null, []), (58, .getfield 28, 3, 7, 2, 201, .null, []), (61, .iconst 1, 1, 0, 0, 0, .int 1, []), (62, .aload_n 0, 1, 0, 0, 0, .null, []), (63, .getfield 21, 3, 7, 1, 200, .null, [])],
  [(66, .getfield 90, 3, 5, 7, 26, .null, []), (69, .invokevirtual 224, 3, 14, 2, 371, .ref 1, []), (72, .iadd, 1, 0, 0, 0, .null, []), (73, .ireturn, 1, 0, 0, 0, .null, [])]]
def ia_m_X7_turn : ia_M := ("OffsetBook", ⟨"OffsetBook", "turn", "(I)I"⟩, prog_1_method_31_code, 2, (some .int), 1, ia_k_X7_turn, (370, 73, 369, 15), (5, 121))
def ia_k_X7_relyOn : List (List ia_E) := [[(0, .aload_n 0, 1, 0, 0, 0, .null, []), (1, .getfield 35, 3, 7, 3, 202, .null, []), (4, .aload_n 0, 1, 0, 0, 0, .null, []), (5, .getfield 21, 3, 7, 1, 200, .null, []), (8, .getfield 86, 3, 5, 6, 21, .null, []), (11, .invokevirtual 243, 3, 56, 1, 397, .ref 6, []), (14, .aload_n 0, 1, 0, 0, 0, .null, []), (15, .getfield 35, 3, 7, 3, 202, .null, [])],
  [(18, .iload_n 1, 1, 0, 0, 0, .null, []), (19, .invokevirtual 246, 3, 62, 1, 431, .ref 6, []), (22, .ireturn, 1, 0, 0, 0, .null, [])]]
def ia_m_X7_relyOn : ia_M := ("OffsetBook", ⟨"OffsetBook", "relyOn", "(I)I"⟩, prog_1_method_32_code, 2, (some .int), 1, ia_k_X7_relyOn, (396, 73, 395, 17), (3, 71))
def ia_k_X7_hangs : List (List ia_E) := [[(0, .aload_n 0, 1, 0, 0, 0, .null, []), (1, .iload_n 1, 1, 0, 0, 0, .null, []), (2, .invokevirtual 132, 3, 93, 1, 394, .ref 7, []), (5, .ifCond .le 7, 3, 12, 0, 0, .null, []), (8, .iconst 1, 1, 0, 0, 0, .int 1, []), (9, .goto 4, 3, 13, 0, 0, .null, []), (12, .iconst 0, 1, 0, 0, 0, .int 0, []), (13, .ireturn, 1, 1, 0, 0, .null, [])]]
def ia_m_X7_hangs : ia_M := ("OffsetBook", ⟨"OffsetBook", "hangs", "(I)Z"⟩, prog_1_method_33_code, 2, (some .boolean), 1, ia_k_X7_hangs, (393, 73, 392, 16), (4, 92))
def ia_k_X7_countHanging : List (List ia_E) := [[(0, .aload_n 0, 1, 0, 0, 0, .null, []), (1, .getfield 35, 3, 7, 3, 202, .null, []), (4, .aload_n 0, 1, 0, 0, 0, .null, []), (5, .getfield 21, 3, 7, 1, 200, .null, []), (8, .getfield 86, 3, 5, 6, 21, .null, []), (11, .invokevirtual 243, 3, 56, 1, 397, .ref 6, []), (14, .iconst 0, 1, 0, 0, 0, .int 0, []), (15, .istore_n 1, 1, 0, 0, 0, .null, [])],
  [(16, .iconst 0, 1, 0, 0, 0, .int 0, []), (17, .istore_n 2, 1, 0, 0, 0, .null, []), (18, .iload_n 2, 1, 0, 0, 0, .null, []), (19, .aload_n 0, 1, 0, 0, 0, .null, []), (20, .getfield 21, 3, 7, 1, 200, .null, []), (23, .getfield 90, 3, 5, 7, 26, .null, []), (26, .if_icmp .ge 23, 3, 49, 0, 0, .null, []), (29, .aload_n 0, 1, 0, 0, 0, .null, []), (30, .getfield 35, 3, 7, 3, 202, .null, [])],
  [(33, .iload_n 2, 1, 0, 0, 0, .null, []), (34, .invokevirtual 246, 3, 62, 1, 431, .ref 6, []), (37, .ifCond .le 6, 3, 43, 0, 0, .null, []), (40, .iinc 1 1, 3, 0, 0, 0, .int 1, []), (43, .iinc 2 1, 3, 0, 0, 0, .int 1, []), (46, .goto (-28), 3, 18, 0, 0, .null, [])],
  [(49, .iload_n 1, 1, 0, 0, 0, .null, []), (50, .ireturn, 1, 0, 0, 0, .null, [])]]
def ia_m_X7_countHanging : ia_M := ("OffsetBook", ⟨"OffsetBook", "countHanging", "()I"⟩, prog_1_method_34_code, 3, (some .int), 0, ia_k_X7_countHanging, (597, 73, 596, 32), (3, 71))
def ia_k_X7_bitsOf : List (List ia_E) := [[(0, .dload_n 0, 1, 0, 0, 0, .null, []), (1, .dconst 0, 1, 0, 0, 0, .null, []), (2, .dcmp .l, 1, 0, 0, 0, .null, []), (3, .ifCond .ne 5, 3, 8, 0, 0, .null, []), (6, .lconst 0, 1, 0, 0, 0, .long 0, []), (7, .lreturn, 1, 0, 0, 0, .null, []), (8, .dload_n 0, 1, 0, 0, 0, .null, []), (9, .dconst 0, 1, 0, 0, 0, .null, []), (10, .dcmp .g, 1, 0, 0, 0, .null, []), (11, .ifCond .ge 8, 3, 19, 0, 0, .null, []), (14, .dload_n 0, 1, 0, 0, 0, .null, []), (15, .dneg, 1, 0, 0, 0, .null, [])],
  [(16, .goto 4, 3, 20, 0, 0, .null, []), (19, .dload_n 0, 1, 0, 0, 0, .null, []), (20, .dstore_n 2, 1, 0, 0, 0, .null, []), (21, .ldc2_w 247, 3, 0, 0, 493, .long 1075, []), (24, .lstore 4, 2, 0, 0, 0, .null, []), (26, .iconst 0, 1, 0, 0, 0, .int 0, []), (27, .istore 6, 2, 0, 0, 0, .null, []), (29, .iload 6, 2, 0, 0, 0, .null, []), (31, .sipush 1100, 3, 0, 0, 0, .int 1100, [])],
  [(34, .if_icmp .ge 29, 3, 63, 0, 0, .null, []), (37, .dload_n 2, 1, 0, 0, 0, .null, []), (38, .ldc2_w 249, 3, 0, 0, 494, .double 4841369599423283200, []), (41, .dcmp .g, 1, 0, 0, 0, .null, []), (42, .ifCond .ge 21, 3, 63, 0, 0, .null, []), (45, .dload_n 2, 1, 0, 0, 0, .null, []), (46, .ldc2_w 251, 3, 0, 0, 495, .double 4611686018427387904, [])],
  [(49, .dmul, 1, 0, 0, 0, .null, []), (50, .dstore_n 2, 1, 0, 0, 0, .null, []), (51, .lload 4, 2, 0, 0, 0, .null, []), (53, .lconst 1, 1, 0, 0, 0, .long 1, []), (54, .lsub, 1, 0, 0, 0, .null, []), (55, .lstore 4, 2, 0, 0, 0, .null, []), (57, .iinc 6 1, 3, 0, 0, 0, .int 1, []), (60, .goto (-31), 3, 29, 0, 0, .null, []), (63, .iconst 0, 1, 0, 0, 0, .int 0, [])],
  [(64, .istore 6, 2, 0, 0, 0, .null, []), (66, .iload 6, 2, 0, 0, 0, .null, []), (68, .sipush 1100, 3, 0, 0, 0, .int 1100, []), (71, .if_icmp .ge 29, 3, 100, 0, 0, .null, []), (74, .dload_n 2, 1, 0, 0, 0, .null, []), (75, .ldc2_w 253, 3, 0, 0, 496, .double 4845873199050653696, []), (78, .dcmp .l, 1, 0, 0, 0, .null, []), (79, .ifCond .lt 21, 3, 100, 0, 0, .null, [])],
  [(82, .dload_n 2, 1, 0, 0, 0, .null, []), (83, .ldc2_w 251, 3, 0, 0, 495, .double 4611686018427387904, []), (86, .ddiv, 1, 0, 0, 0, .null, []), (87, .dstore_n 2, 1, 0, 0, 0, .null, []), (88, .lload 4, 2, 0, 0, 0, .null, []), (90, .lconst 1, 1, 0, 0, 0, .long 1, []), (91, .ladd, 1, 0, 0, 0, .null, []), (92, .lstore 4, 2, 0, 0, 0, .null, []), (94, .iinc 6 1, 3, 0, 0, 0, .int 1, [])],
  [(97, .goto (-31), 3, 66, 0, 0, .null, []), (100, .lload 4, 2, 0, 0, 0, .null, []), (102, .bipush 52, 2, 0, 0, 0, .int 52, []), (104, .lshl, 1, 0, 0, 0, .null, []), (105, .dload_n 2, 1, 0, 0, 0, .null, []), (106, .d2l, 1, 0, 0, 0, .null, []), (107, .ldc2_w 255, 3, 0, 0, 497, .long 4503599627370495, []), (110, .land, 1, 0, 0, 0, .null, []), (111, .lor, 1, 0, 0, 0, .null, [])],
  [(112, .lstore 6, 2, 0, 0, 0, .null, []), (114, .dload_n 0, 1, 0, 0, 0, .null, []), (115, .dconst 0, 1, 0, 0, 0, .null, []), (116, .dcmp .g, 1, 0, 0, 0, .null, []), (117, .ifCond .ge 12, 3, 129, 0, 0, .null, []), (120, .lload 6, 2, 0, 0, 0, .null, []), (122, .ldc2_w 139, 3, 0, 0, 439, .long (-9223372036854775808), []), (125, .lor, 1, 0, 0, 0, .null, []), (126, .goto 5, 3, 131, 0, 0, .null, [])],
  [(129, .lload 6, 2, 0, 0, 0, .null, []), (131, .lreturn, 1, 0, 0, 0, .null, [])]]
def ia_m_X7_bitsOf : ia_M := ("OffsetBook", ⟨"OffsetBook", "bitsOf", "(D)J"⟩, prog_1_method_35_code, 8, (some .long), 1, ia_k_X7_bitsOf, (492, 73, 491, 0), (0, 0))
def ia_k_X8_isIn : List (List ia_E) := [[(0, .lload_n 0, 1, 0, 0, 0, .null, []), (1, .lload_n 2, 1, 0, 0, 0, .null, []), (2, .lcmp, 1, 0, 0, 0, .null, []), (3, .ifCond .lt 14, 3, 17, 0, 0, .null, []), (6, .lload_n 0, 1, 0, 0, 0, .null, []), (7, .lload 4, 2, 0, 0, 0, .null, []), (9, .lcmp, 1, 0, 0, 0, .null, []), (10, .ifCond .gt 7, 3, 17, 0, 0, .null, []), (13, .iconst 1, 1, 0, 0, 0, .int 1, []), (14, .goto 4, 3, 18, 0, 0, .null, [])],
  [(17, .iconst 0, 1, 0, 0, 0, .int 0, []), (18, .ireturn, 1, 1, 0, 0, .null, [])]]
def ia_m_X8_isIn : ia_M := ("OffsetBookModel", ⟨"OffsetBookModel", "isIn", "(JJJ)Z"⟩, prog_10_method_2_code, 6, (some .boolean), 3, ia_k_X8_isIn, (688, 82, 687, 0), (0, 0))
def ia_k_X8_feed : List (List ia_E) := [[(0, .aload_n 0, 1, 0, 0, 0, .null, []), (1, .getfield 91, 3, 8, 1, 613, .null, []), (4, .sipush 280, 3, 0, 0, 0, .int 280, []), (7, .if_icmp .le 5, 3, 12, 0, 0, .null, []), (10, .iconst (-1), 1, 0, 0, 0, .int (-1), []), (11, .ireturn, 1, 0, 0, 0, .null, []), (12, .iconst 0, 1, 0, 0, 0, .int 0, []), (13, .istore 6, 2, 0, 0, 0, .null, []), (15, .iload 6, 2, 0, 0, 0, .null, [])],
  [(17, .bipush 20, 2, 0, 0, 0, .int 20, []), (19, .if_icmp .ge 83, 3, 102, 0, 0, .null, []), (22, .iload 6, 2, 0, 0, 0, .null, []), (24, .iconst 4, 1, 0, 0, 0, .int 4, []), (25, .if_icmp .ge 7, 3, 32, 0, 0, .null, []), (28, .iload_n 1, 1, 0, 0, 0, .null, []), (29, .goto 39, 3, 68, 0, 0, .null, [])],
  [(32, .iload 6, 2, 0, 0, 0, .null, []), (34, .bipush 8, 2, 0, 0, 0, .int 8, []), (36, .if_icmp .ge 7, 3, 43, 0, 0, .null, []), (39, .iload_n 2, 1, 0, 0, 0, .null, []), (40, .goto 28, 3, 68, 0, 0, .null, []), (43, .iload 6, 2, 0, 0, 0, .null, []), (45, .bipush 12, 2, 0, 0, 0, .int 12, []), (47, .if_icmp .ge 7, 3, 54, 0, 0, .null, [])],
  [(50, .iload_n 3, 1, 0, 0, 0, .null, []), (51, .goto 17, 3, 68, 0, 0, .null, []), (54, .iload 6, 2, 0, 0, 0, .null, []), (56, .bipush 16, 2, 0, 0, 0, .int 16, []), (58, .if_icmp .ge 8, 3, 66, 0, 0, .null, []), (61, .iload 4, 2, 0, 0, 0, .null, []), (63, .goto 5, 3, 68, 0, 0, .null, [])],
  [(66, .iload 5, 2, 0, 0, 0, .null, []), (68, .istore 7, 2, 0, 0, 0, .null, []), (70, .aload_n 0, 1, 0, 0, 0, .null, []), (71, .getfield 9, 3, 8, 0, 612, .null, []), (74, .aload_n 0, 1, 0, 0, 0, .null, []), (75, .getfield 91, 3, 8, 1, 613, .null, []), (78, .iload 6, 2, 0, 0, 0, .null, [])],
  [(80, .iadd, 1, 0, 0, 0, .null, []), (81, .iload 7, 2, 0, 0, 0, .null, []), (83, .bipush 24, 2, 0, 0, 0, .int 24, []), (85, .bipush 8, 2, 0, 0, 0, .int 8, []), (87, .iload 6, 2, 0, 0, 0, .null, []), (89, .iconst 4, 1, 0, 0, 0, .int 4, []), (90, .irem, 1, 0, 0, 0, .null, []), (91, .imul, 1, 0, 0, 0, .null, []), (92, .isub, 1, 0, 0, 0, .null, []), (93, .ishr, 1, 0, 0, 0, .null, []), (94, .i2b, 1, 0, 0, 0, .null, []), (95, .bastore, 1, 0, 0, 0, .null, [])],
  [(96, .iinc 6 1, 3, 0, 0, 0, .int 1, []), (99, .goto (-84), 3, 15, 0, 0, .null, []), (102, .aload_n 0, 1, 0, 0, 0, .null, []), (103, .dup, 1, 0, 0, 0, .null, []), (104, .getfield 91, 3, 8, 1, 613, .null, []), (107, .bipush 20, 2, 0, 0, 0, .int 20, []), (109, .iadd, 1, 0, 0, 0, .null, []), (110, .putfield 91, 3, 8, 1, 613, .null, [])],
  [(113, .aload_n 0, 1, 0, 0, 0, .null, []), (114, .getfield 91, 3, 8, 1, 613, .null, []), (117, .ireturn, 1, 0, 0, 0, .null, [])]]
def ia_m_X8_feed : ia_M := ("OffsetBookModel", ⟨"OffsetBookModel", "feed", "(IIIII)I"⟩, prog_10_method_3_code, 8, (some .int), 5, ia_k_X8_feed, (681, 82, 679, 680), (0, 0))
def ia_k_X8_end : List (List ia_E) := [[(0, .iload_n 1, 1, 0, 0, 0, .null, []), (1, .i2l, 1, 0, 0, 0, .null, []), (2, .lconst 0, 1, 0, 0, 0, .long 0, []), (3, .aload_n 0, 1, 0, 0, 0, .null, []), (4, .getfield 91, 3, 8, 1, 613, .null, []), (7, .i2l, 1, 0, 0, 0, .null, []), (8, .invokestatic 94, 3, 103, 3, 686, .null, []), (11, .ifCond .ne 5, 3, 16, 0, 0, .null, []), (14, .iconst (-1), 1, 0, 0, 0, .int (-1), []), (15, .ireturn, 1, 0, 0, 0, .null, [])],
  [(16, .aload_n 0, 1, 0, 0, 0, .null, []), (17, .iload_n 1, 1, 0, 0, 0, .null, []), (18, .putfield 91, 3, 8, 1, 613, .null, []), (21, .iload_n 1, 1, 0, 0, 0, .null, []), (22, .ireturn, 1, 0, 0, 0, .null, [])]]
def ia_m_X8_end : ia_M := ("OffsetBookModel", ⟨"OffsetBookModel", "end", "(I)I"⟩, prog_10_method_4_code, 2, (some .int), 1, ia_k_X8_end, (685, 82, 683, 684), (1, 25))
def ia_k_X8_fails : List (List ia_E) := [[(0, .aload_n 0, 1, 0, 0, 0, .null, []), (1, .bipush 8, 2, 0, 0, 0, .int 8, []), (3, .iload_n 2, 1, 0, 0, 0, .null, []), (4, .imul, 1, 0, 0, 0, .null, []), (5, .iload_n 1, 1, 0, 0, 0, .null, []), (6, .iadd, 1, 0, 0, 0, .null, []), (7, .putfield 98, 3, 8, 3, 615, .null, []), (10, .iconst 0, 1, 0, 0, 0, .int 0, []), (11, .ireturn, 1, 1, 0, 0, .null, [])]]
def ia_m_X8_fails : ia_M := ("OffsetBookModel", ⟨"OffsetBookModel", "fails", "(II)Z"⟩, prog_10_method_5_code, 3, (some .boolean), 2, ia_k_X8_fails, (710, 82, 709, 40), (0, 0))
def ia_k_X8_byteAt : List (List ia_E) := [[(0, .iload_n 1, 1, 0, 0, 0, .null, []), (1, .aload_n 0, 1, 0, 0, 0, .null, []), (2, .getfield 91, 3, 8, 1, 613, .null, []), (5, .if_icmp .ge 16, 3, 21, 0, 0, .null, []), (8, .aload_n 0, 1, 0, 0, 0, .null, []), (9, .getfield 9, 3, 8, 0, 612, .null, []), (12, .iload_n 1, 1, 0, 0, 0, .null, []), (13, .baload, 1, 0, 0, 0, .null, []), (14, .sipush 255, 3, 0, 0, 0, .int 255, [])],
  [(17, .iand, 1, 0, 0, 0, .null, []), (18, .goto 4, 3, 22, 0, 0, .null, []), (21, .iconst (-1), 1, 0, 0, 0, .int (-1), []), (22, .ireturn, 1, 0, 0, 0, .null, [])]]
def ia_m_X8_byteAt : ia_M := ("OffsetBookModel", ⟨"OffsetBookModel", "byteAt", "(I)I"⟩, prog_10_method_6_code, 2, (some .int), 1, ia_k_X8_byteAt, (704, 82, 703, 39), (0, 0))
def ia_k_X8_next : List (List ia_E) := [[(0, .aload_n 0, 1, 0, 0, 0, .null, []), (1, .aload_n 0, 1, 0, 0, 0, .null, []), (2, .getfield 101, 3, 8, 2, 614, .null, []), (5, .invokevirtual 104, 3, 101, 1, 702, .ref 8, []), (8, .bipush 32, 2, 0, 0, 0, .int 32, []), (10, .if_icmp .ne 16, 3, 26, 0, 0, .null, []), (13, .aload_n 0, 1, 0, 0, 0, .null, []), (14, .dup, 1, 0, 0, 0, .null, []), (15, .getfield 101, 3, 8, 2, 614, .null, [])],
  [(18, .iconst 1, 1, 0, 0, 0, .int 1, []), (19, .iadd, 1, 0, 0, 0, .null, []), (20, .putfield 101, 3, 8, 2, 614, .null, []), (23, .goto (-23), 3, 0, 0, 0, .null, []), (26, .aload_n 0, 1, 0, 0, 0, .null, []), (27, .aload_n 0, 1, 0, 0, 0, .null, []), (28, .getfield 101, 3, 8, 2, 614, .null, []), (31, .invokevirtual 104, 3, 101, 1, 702, .ref 8, [])],
  [(34, .ireturn, 1, 0, 0, 0, .null, [])]]
def ia_m_X8_next : ia_M := ("OffsetBookModel", ⟨"OffsetBookModel", "next", "()I"⟩, prog_10_method_7_code, 1, (some .int), 0, ia_k_X8_next, (701, 82, 700, 38), (1, 21))
def ia_k_X8_isLetter : List (List ia_E) := [[(0, .iload_n 0, 1, 0, 0, 0, .null, []), (1, .bipush 97, 2, 0, 0, 0, .int 97, []), (3, .if_icmp .lt 13, 3, 16, 0, 0, .null, []), (6, .iload_n 0, 1, 0, 0, 0, .null, []), (7, .bipush 122, 2, 0, 0, 0, .int 122, []), (9, .if_icmp .gt 7, 3, 16, 0, 0, .null, []), (12, .iconst 1, 1, 0, 0, 0, .int 1, []), (13, .goto 4, 3, 17, 0, 0, .null, [])],
  [(16, .iconst 0, 1, 0, 0, 0, .int 0, []), (17, .ireturn, 1, 1, 0, 0, .null, [])]]
def ia_m_X8_isLetter : ia_M := ("OffsetBookModel", ⟨"OffsetBookModel", "isLetter", "(I)Z"⟩, prog_10_method_8_code, 1, (some .boolean), 1, ia_k_X8_isLetter, (707, 82, 706, 0), (0, 0))
def ia_k_X8_isDigit : List (List ia_E) := [[(0, .iload_n 0, 1, 0, 0, 0, .null, []), (1, .bipush 48, 2, 0, 0, 0, .int 48, []), (3, .if_icmp .lt 13, 3, 16, 0, 0, .null, []), (6, .iload_n 0, 1, 0, 0, 0, .null, []), (7, .bipush 57, 2, 0, 0, 0, .int 57, []), (9, .if_icmp .gt 7, 3, 16, 0, 0, .null, []), (12, .iconst 1, 1, 0, 0, 0, .int 1, []), (13, .goto 4, 3, 17, 0, 0, .null, [])],
  [(16, .iconst 0, 1, 0, 0, 0, .int 0, []), (17, .ireturn, 1, 1, 0, 0, .null, [])]]
def ia_m_X8_isDigit : ia_M := ("OffsetBookModel", ⟨"OffsetBookModel", "isDigit", "(I)Z"⟩, prog_10_method_9_code, 1, (some .boolean), 1, ia_k_X8_isDigit, (731, 82, 730, 0), (0, 0))
def ia_k_X8_takes : List (List ia_E) := [[(0, .aload_n 0, 1, 0, 0, 0, .null, []), (1, .invokevirtual 108, 3, 102, 0, 699, .ref 8, []), (4, .iload_n 1, 1, 0, 0, 0, .null, []), (5, .if_icmp .eq 5, 3, 10, 0, 0, .null, []), (8, .iconst 0, 1, 0, 0, 0, .int 0, []), (9, .ireturn, 1, 1, 0, 0, .null, []), (10, .aload_n 0, 1, 0, 0, 0, .null, []), (11, .dup, 1, 0, 0, 0, .null, []), (12, .getfield 101, 3, 8, 2, 614, .null, []), (15, .iconst 1, 1, 0, 0, 0, .int 1, [])],
  [(16, .iadd, 1, 0, 0, 0, .null, []), (17, .putfield 101, 3, 8, 2, 614, .null, []), (20, .iconst 1, 1, 0, 0, 0, .int 1, []), (21, .ireturn, 1, 1, 0, 0, .null, [])]]
def ia_m_X8_takes : ia_M := ("OffsetBookModel", ⟨"OffsetBookModel", "takes", "(I)Z"⟩, prog_10_method_10_code, 2, (some .boolean), 1, ia_k_X8_takes, (725, 82, 724, 45), (2, 41))
def ia_k_X8_readsLetters : List (List ia_E) := [[(0, .iconst 0, 1, 0, 0, 0, .int 0, []), (1, .istore_n 1, 1, 0, 0, 0, .null, []), (2, .aload_n 0, 1, 0, 0, 0, .null, []), (3, .aload_n 0, 1, 0, 0, 0, .null, []), (4, .getfield 101, 3, 8, 2, 614, .null, []), (7, .invokevirtual 104, 3, 101, 1, 702, .ref 8, []), (10, .invokestatic 112, 3, 109, 1, 705, .null, []), (13, .ifCond .eq 46, 3, 59, 0, 0, .null, [])],
  [(16, .iload_n 1, 1, 0, 0, 0, .null, []), (17, .bipush 6, 2, 0, 0, 0, .int 6, []), (19, .if_icmp .ge 24, 3, 43, 0, 0, .null, []), (22, .aload_n 0, 1, 0, 0, 0, .null, []), (23, .getfield 19, 3, 8, 7, 619, .null, []), (26, .iconst 1, 1, 0, 0, 0, .int 1, []), (27, .iload_n 1, 1, 0, 0, 0, .null, []), (28, .iadd, 1, 0, 0, 0, .null, []), (29, .aload_n 0, 1, 0, 0, 0, .null, []), (30, .aload_n 0, 1, 0, 0, 0, .null, []), (31, .getfield 101, 3, 8, 2, 614, .null, [])],
  [(34, .invokevirtual 104, 3, 101, 1, 702, .ref 8, []), (37, .bipush 97, 2, 0, 0, 0, .int 97, []), (39, .isub, 1, 0, 0, 0, .null, []), (40, .iconst 1, 1, 0, 0, 0, .int 1, []), (41, .iadd, 1, 0, 0, 0, .null, []), (42, .iastore, 1, 0, 0, 0, .null, []), (43, .iinc 1 1, 3, 0, 0, 0, .int 1, []), (46, .aload_n 0, 1, 0, 0, 0, .null, []), (47, .dup, 1, 0, 0, 0, .null, [])],
  [(48, .getfield 101, 3, 8, 2, 614, .null, []), (51, .iconst 1, 1, 0, 0, 0, .int 1, []), (52, .iadd, 1, 0, 0, 0, .null, []), (53, .putfield 101, 3, 8, 2, 614, .null, []), (56, .goto (-54), 3, 2, 0, 0, .null, []), (59, .aload_n 0, 1, 0, 0, 0, .null, []), (60, .getfield 19, 3, 8, 7, 619, .null, []), (63, .iconst 0, 1, 0, 0, 0, .int 0, [])],
  [(64, .iload_n 1, 1, 0, 0, 0, .null, []), (65, .iastore, 1, 0, 0, 0, .null, []), (66, .iload_n 1, 1, 0, 0, 0, .null, []), (67, .bipush 6, 2, 0, 0, 0, .int 6, []), (69, .if_icmp .le 7, 3, 76, 0, 0, .null, []), (72, .iconst (-1), 1, 0, 0, 0, .int (-1), []), (73, .goto 4, 3, 77, 0, 0, .null, []), (76, .iload_n 1, 1, 0, 0, 0, .null, []), (77, .ireturn, 1, 0, 0, 0, .null, [])]]
def ia_m_X8_readsLetters : ia_M := ("OffsetBookModel", ⟨"OffsetBookModel", "readsLetters", "()I"⟩, prog_10_method_11_code, 2, (some .int), 0, ia_k_X8_readsLetters, (716, 82, 715, 42), (1, 21))
def ia_k_X8_isNamed : List (List ia_E) := [[(0, .iconst 0, 1, 0, 0, 0, .int 0, []), (1, .istore_n 2, 1, 0, 0, 0, .null, []), (2, .iload_n 2, 1, 0, 0, 0, .null, []), (3, .aload_n 0, 1, 0, 0, 0, .null, []), (4, .getfield 19, 3, 8, 7, 619, .null, []), (7, .iconst 0, 1, 0, 0, 0, .int 0, []), (8, .iaload, 1, 0, 0, 0, .null, []), (9, .if_icmp .gt 31, 3, 40, 0, 0, .null, []), (12, .aload_n 0, 1, 0, 0, 0, .null, []), (13, .getfield 15, 3, 8, 5, 617, .null, [])],
  [(16, .bipush 7, 2, 0, 0, 0, .int 7, []), (18, .iload_n 1, 1, 0, 0, 0, .null, []), (19, .imul, 1, 0, 0, 0, .null, []), (20, .iload_n 2, 1, 0, 0, 0, .null, []), (21, .iadd, 1, 0, 0, 0, .null, []), (22, .iaload, 1, 0, 0, 0, .null, []), (23, .aload_n 0, 1, 0, 0, 0, .null, []), (24, .getfield 19, 3, 8, 7, 619, .null, []), (27, .iload_n 2, 1, 0, 0, 0, .null, []), (28, .iaload, 1, 0, 0, 0, .null, []), (29, .if_icmp .eq 5, 3, 34, 0, 0, .null, [])],
  [(32, .iconst 0, 1, 0, 0, 0, .int 0, []), (33, .ireturn, 1, 1, 0, 0, .null, []), (34, .iinc 2 1, 3, 0, 0, 0, .int 1, []), (37, .goto (-35), 3, 2, 0, 0, .null, []), (40, .iconst 1, 1, 0, 0, 0, .int 1, []), (41, .ireturn, 1, 1, 0, 0, .null, [])]]
def ia_m_X8_isNamed : ia_M := ("OffsetBookModel", ⟨"OffsetBookModel", "isNamed", "(I)Z"⟩, prog_10_method_12_code, 3, (some .boolean), 1, ia_k_X8_isNamed, (722, 82, 721, 44), (0, 0))
def ia_k_X8_gaugeNamed : List (List ia_E) := [[(0, .iconst 1, 1, 0, 0, 0, .int 1, []), (1, .istore_n 2, 1, 0, 0, 0, .null, []), (2, .iload_n 2, 1, 0, 0, 0, .null, []), (3, .iload_n 1, 1, 0, 0, 0, .null, []), (4, .if_icmp .ge 19, 3, 23, 0, 0, .null, []), (7, .aload_n 0, 1, 0, 0, 0, .null, []), (8, .iload_n 2, 1, 0, 0, 0, .null, []), (9, .invokevirtual 116, 3, 107, 1, 720, .ref 8, []), (12, .ifCond .eq 5, 3, 17, 0, 0, .null, []), (15, .iload_n 2, 1, 0, 0, 0, .null, [])],
  [(16, .ireturn, 1, 0, 0, 0, .null, []), (17, .iinc 2 1, 3, 0, 0, 0, .int 1, []), (20, .goto (-18), 3, 2, 0, 0, .null, []), (23, .iconst (-1), 1, 0, 0, 0, .int (-1), []), (24, .ireturn, 1, 0, 0, 0, .null, [])]]
def ia_m_X8_gaugeNamed : ia_M := ("OffsetBookModel", ⟨"OffsetBookModel", "gaugeNamed", "(I)I"⟩, prog_10_method_13_code, 3, (some .int), 1, ia_k_X8_gaugeNamed, (719, 82, 718, 43), (1, 22))
def ia_k_X8_readsName : List (List ia_E) := [[(0, .aload_n 0, 1, 0, 0, 0, .null, []), (1, .getfield 101, 3, 8, 2, 614, .null, []), (4, .istore_n 2, 1, 0, 0, 0, .null, []), (5, .aload_n 0, 1, 0, 0, 0, .null, []), (6, .invokevirtual 119, 3, 106, 0, 714, .ref 8, []), (9, .ifCond .ge 10, 3, 19, 0, 0, .null, []), (12, .aload_n 0, 1, 0, 0, 0, .null, []), (13, .iconst 2, 1, 0, 0, 0, .int 2, []), (14, .iload_n 2, 1, 0, 0, 0, .null, []), (15, .invokevirtual 122, 3, 100, 2, 708, .ref 8, [])],
  [(18, .ireturn, 1, 1, 0, 0, .null, []), (19, .aload_n 0, 1, 0, 0, 0, .null, []), (20, .aload_n 0, 1, 0, 0, 0, .null, []), (21, .getfield 126, 3, 8, 6, 618, .null, []), (24, .invokevirtual 129, 3, 108, 1, 717, .ref 8, []), (27, .istore_n 3, 1, 0, 0, 0, .null, []), (28, .iload_n 3, 1, 0, 0, 0, .null, []), (29, .ifCond .ge 73, 3, 102, 0, 0, .null, [])],
  [(32, .aload_n 0, 1, 0, 0, 0, .null, []), (33, .getfield 126, 3, 8, 6, 618, .null, []), (36, .bipush 41, 2, 0, 0, 0, .int 41, []), (38, .if_icmp .ne 10, 3, 48, 0, 0, .null, []), (41, .aload_n 0, 1, 0, 0, 0, .null, []), (42, .iconst 3, 1, 0, 0, 0, .int 3, []), (43, .iload_n 2, 1, 0, 0, 0, .null, []), (44, .invokevirtual 122, 3, 100, 2, 708, .ref 8, []), (47, .ireturn, 1, 1, 0, 0, .null, [])],
  [(48, .aload_n 0, 1, 0, 0, 0, .null, []), (49, .getfield 126, 3, 8, 6, 618, .null, []), (52, .istore_n 3, 1, 0, 0, 0, .null, []), (53, .iconst 0, 1, 0, 0, 0, .int 0, []), (54, .istore 4, 2, 0, 0, 0, .null, []), (56, .iload 4, 2, 0, 0, 0, .null, []), (58, .aload_n 0, 1, 0, 0, 0, .null, []), (59, .getfield 19, 3, 8, 7, 619, .null, []), (62, .iconst 0, 1, 0, 0, 0, .int 0, []), (63, .iaload, 1, 0, 0, 0, .null, [])],
  [(64, .if_icmp .gt 28, 3, 92, 0, 0, .null, []), (67, .aload_n 0, 1, 0, 0, 0, .null, []), (68, .getfield 15, 3, 8, 5, 617, .null, []), (71, .bipush 7, 2, 0, 0, 0, .int 7, []), (73, .iload_n 3, 1, 0, 0, 0, .null, []), (74, .imul, 1, 0, 0, 0, .null, []), (75, .iload 4, 2, 0, 0, 0, .null, []), (77, .iadd, 1, 0, 0, 0, .null, []), (78, .aload_n 0, 1, 0, 0, 0, .null, []), (79, .getfield 19, 3, 8, 7, 619, .null, [])],
  [(82, .iload 4, 2, 0, 0, 0, .null, []), (84, .iaload, 1, 0, 0, 0, .null, []), (85, .iastore, 1, 0, 0, 0, .null, []), (86, .iinc 4 1, 3, 0, 0, 0, .int 1, []), (89, .goto (-33), 3, 56, 0, 0, .null, []), (92, .aload_n 0, 1, 0, 0, 0, .null, []), (93, .dup, 1, 0, 0, 0, .null, []), (94, .getfield 126, 3, 8, 6, 618, .null, [])],
  [(97, .iconst 1, 1, 0, 0, 0, .int 1, []), (98, .iadd, 1, 0, 0, 0, .null, []), (99, .putfield 126, 3, 8, 6, 618, .null, []), (102, .iload_n 3, 1, 0, 0, 0, .null, []), (103, .iload_n 1, 1, 0, 0, 0, .null, []), (104, .if_icmp .ne 10, 3, 114, 0, 0, .null, []), (107, .aload_n 0, 1, 0, 0, 0, .null, []), (108, .iconst 4, 1, 0, 0, 0, .int 4, []), (109, .iload_n 2, 1, 0, 0, 0, .null, []), (110, .invokevirtual 122, 3, 100, 2, 708, .ref 8, [])],
  [(113, .ireturn, 1, 1, 0, 0, .null, []), (114, .aload_n 0, 1, 0, 0, 0, .null, []), (115, .iload_n 3, 1, 0, 0, 0, .null, []), (116, .putfield 132, 3, 8, 8, 620, .null, []), (119, .iconst 1, 1, 0, 0, 0, .int 1, []), (120, .ireturn, 1, 1, 0, 0, .null, [])]]
def ia_m_X8_readsName : ia_M := ("OffsetBookModel", ⟨"OffsetBookModel", "readsName", "(I)Z"⟩, prog_10_method_14_code, 5, (some .boolean), 1, ia_k_X8_readsName, (713, 82, 712, 41), (2, 44))
def ia_k_X8_readsNumber : List (List ia_E) := [[(0, .aload_n 0, 1, 0, 0, 0, .null, []), (1, .invokevirtual 108, 3, 102, 0, 699, .ref 8, []), (4, .invokestatic 135, 3, 110, 1, 729, .null, []), (7, .ifCond .ne 13, 3, 20, 0, 0, .null, []), (10, .aload_n 0, 1, 0, 0, 0, .null, []), (11, .iconst 1, 1, 0, 0, 0, .int 1, []), (12, .aload_n 0, 1, 0, 0, 0, .null, []), (13, .getfield 101, 3, 8, 2, 614, .null, [])],
  [(16, .invokevirtual 122, 3, 100, 2, 708, .ref 8, []), (19, .ireturn, 1, 1, 0, 0, .null, []), (20, .aload_n 0, 1, 0, 0, 0, .null, []), (21, .getfield 101, 3, 8, 2, 614, .null, []), (24, .istore_n 1, 1, 0, 0, 0, .null, []), (25, .aload_n 0, 1, 0, 0, 0, .null, []), (26, .lconst 0, 1, 0, 0, 0, .long 0, []), (27, .putfield 138, 3, 8, 9, 621, .null, []), (30, .aload_n 0, 1, 0, 0, 0, .null, []), (31, .aload_n 0, 1, 0, 0, 0, .null, [])],
  [(32, .getfield 101, 3, 8, 2, 614, .null, []), (35, .invokevirtual 104, 3, 101, 1, 702, .ref 8, []), (38, .invokestatic 135, 3, 110, 1, 729, .null, []), (41, .ifCond .eq 53, 3, 94, 0, 0, .null, []), (44, .aload_n 0, 1, 0, 0, 0, .null, []), (45, .getfield 101, 3, 8, 2, 614, .null, [])],
  [(48, .iload_n 1, 1, 0, 0, 0, .null, []), (49, .isub, 1, 0, 0, 0, .null, []), (50, .bipush 18, 2, 0, 0, 0, .int 18, []), (52, .if_icmp .ge 29, 3, 81, 0, 0, .null, []), (55, .aload_n 0, 1, 0, 0, 0, .null, []), (56, .ldc2_w 142, 3, 0, 0, 732, .long 10, []), (59, .aload_n 0, 1, 0, 0, 0, .null, []), (60, .getfield 138, 3, 8, 9, 621, .null, []), (63, .lmul, 1, 0, 0, 0, .null, [])],
  [(64, .aload_n 0, 1, 0, 0, 0, .null, []), (65, .aload_n 0, 1, 0, 0, 0, .null, []), (66, .getfield 101, 3, 8, 2, 614, .null, []), (69, .invokevirtual 104, 3, 101, 1, 702, .ref 8, []), (72, .i2l, 1, 0, 0, 0, .null, []), (73, .ladd, 1, 0, 0, 0, .null, []), (74, .ldc2_w 144, 3, 0, 0, 733, .long 48, []), (77, .lsub, 1, 0, 0, 0, .null, []), (78, .putfield 138, 3, 8, 9, 621, .null, [])],
  [(81, .aload_n 0, 1, 0, 0, 0, .null, []), (82, .dup, 1, 0, 0, 0, .null, []), (83, .getfield 101, 3, 8, 2, 614, .null, []), (86, .iconst 1, 1, 0, 0, 0, .int 1, []), (87, .iadd, 1, 0, 0, 0, .null, []), (88, .putfield 101, 3, 8, 2, 614, .null, []), (91, .goto (-61), 3, 30, 0, 0, .null, []), (94, .aload_n 0, 1, 0, 0, 0, .null, []), (95, .getfield 101, 3, 8, 2, 614, .null, [])],
  [(98, .iload_n 1, 1, 0, 0, 0, .null, []), (99, .isub, 1, 0, 0, 0, .null, []), (100, .bipush 18, 2, 0, 0, 0, .int 18, []), (102, .if_icmp .le 12, 3, 114, 0, 0, .null, []), (105, .aload_n 0, 1, 0, 0, 0, .null, []), (106, .iconst 2, 1, 0, 0, 0, .int 2, []), (107, .iload_n 1, 1, 0, 0, 0, .null, []), (108, .invokevirtual 122, 3, 100, 2, 708, .ref 8, []), (111, .ifCond .eq 7, 3, 118, 0, 0, .null, [])],
  [(114, .iconst 1, 1, 0, 0, 0, .int 1, []), (115, .goto 4, 3, 119, 0, 0, .null, []), (118, .iconst 0, 1, 0, 0, 0, .int 0, []), (119, .ireturn, 1, 1, 0, 0, .null, [])]]
def ia_m_X8_readsNumber : ia_M := ("OffsetBookModel", ⟨"OffsetBookModel", "readsNumber", "()Z"⟩, prog_10_method_15_code, 2, (some .boolean), 0, ia_k_X8_readsNumber, (728, 82, 727, 46), (2, 41))
def ia_k_X8_readsStatement : List (List ia_E) := [[(0, .aload_n 0, 1, 0, 0, 0, .null, []), (1, .invokevirtual 108, 3, 102, 0, 699, .ref 8, []), (4, .invokestatic 112, 3, 109, 1, 705, .null, []), (7, .ifCond .ne 13, 3, 20, 0, 0, .null, []), (10, .aload_n 0, 1, 0, 0, 0, .null, []), (11, .iconst 1, 1, 0, 0, 0, .int 1, []), (12, .aload_n 0, 1, 0, 0, 0, .null, []), (13, .getfield 101, 3, 8, 2, 614, .null, [])],
  [(16, .invokevirtual 122, 3, 100, 2, 708, .ref 8, []), (19, .ireturn, 1, 1, 0, 0, .null, []), (20, .iload_n 1, 1, 0, 0, 0, .null, []), (21, .bipush 12, 2, 0, 0, 0, .int 12, []), (23, .if_icmp .eq 12, 3, 35, 0, 0, .null, []), (26, .aload_n 0, 1, 0, 0, 0, .null, []), (27, .getfield 146, 3, 8, 15, 627, .null, []), (30, .bipush 120, 2, 0, 0, 0, .int 120, [])],
  [(32, .if_icmp .ne 13, 3, 45, 0, 0, .null, []), (35, .aload_n 0, 1, 0, 0, 0, .null, []), (36, .iconst 5, 1, 0, 0, 0, .int 5, []), (37, .aload_n 0, 1, 0, 0, 0, .null, []), (38, .getfield 101, 3, 8, 2, 614, .null, []), (41, .invokevirtual 122, 3, 100, 2, 708, .ref 8, []), (44, .ireturn, 1, 1, 0, 0, .null, []), (45, .aload_n 0, 1, 0, 0, 0, .null, []), (46, .iconst (-1), 1, 0, 0, 0, .int (-1), []), (47, .invokevirtual 149, 3, 109, 1, 711, .ref 8, [])],
  [(50, .ifCond .ne 5, 3, 55, 0, 0, .null, []), (53, .iconst 0, 1, 0, 0, 0, .int 0, []), (54, .ireturn, 1, 1, 0, 0, .null, []), (55, .aload_n 0, 1, 0, 0, 0, .null, []), (56, .getfield 132, 3, 8, 8, 620, .null, []), (59, .istore_n 2, 1, 0, 0, 0, .null, []), (60, .aload_n 0, 1, 0, 0, 0, .null, []), (61, .bipush 61, 2, 0, 0, 0, .int 61, []), (63, .invokevirtual 152, 3, 105, 1, 723, .ref 8, [])],
  [(66, .ifCond .ne 13, 3, 79, 0, 0, .null, []), (69, .aload_n 0, 1, 0, 0, 0, .null, []), (70, .iconst 1, 1, 0, 0, 0, .int 1, []), (71, .aload_n 0, 1, 0, 0, 0, .null, []), (72, .getfield 101, 3, 8, 2, 614, .null, []), (75, .invokevirtual 122, 3, 100, 2, 708, .ref 8, []), (78, .ireturn, 1, 1, 0, 0, .null, []), (79, .iconst 0, 1, 0, 0, 0, .int 0, [])],
  [(80, .istore_n 3, 1, 0, 0, 0, .null, []), (81, .lconst 0, 1, 0, 0, 0, .long 0, []), (82, .lstore 4, 2, 0, 0, 0, .null, []), (84, .aload_n 0, 1, 0, 0, 0, .null, []), (85, .invokevirtual 108, 3, 102, 0, 699, .ref 8, []), (88, .invokestatic 112, 3, 109, 1, 705, .null, []), (91, .ifCond .eq 81, 3, 172, 0, 0, .null, []), (94, .aload_n 0, 1, 0, 0, 0, .null, []), (95, .iload_n 2, 1, 0, 0, 0, .null, [])],
  [(96, .invokevirtual 149, 3, 109, 1, 711, .ref 8, []), (99, .ifCond .ne 5, 3, 104, 0, 0, .null, []), (102, .iconst 0, 1, 0, 0, 0, .int 0, []), (103, .ireturn, 1, 1, 0, 0, .null, []), (104, .aload_n 0, 1, 0, 0, 0, .null, []), (105, .getfield 132, 3, 8, 8, 620, .null, []), (108, .istore_n 3, 1, 0, 0, 0, .null, []), (109, .aload_n 0, 1, 0, 0, 0, .null, []), (110, .invokevirtual 108, 3, 102, 0, 699, .ref 8, [])],
  [(113, .istore 6, 2, 0, 0, 0, .null, []), (115, .iload 6, 2, 0, 0, 0, .null, []), (117, .bipush 43, 2, 0, 0, 0, .int 43, []), (119, .if_icmp .eq 10, 3, 129, 0, 0, .null, []), (122, .iload 6, 2, 0, 0, 0, .null, []), (124, .bipush 45, 2, 0, 0, 0, .int 45, []), (126, .if_icmp .ne 43, 3, 169, 0, 0, .null, [])],
  [(129, .aload_n 0, 1, 0, 0, 0, .null, []), (130, .dup, 1, 0, 0, 0, .null, []), (131, .getfield 101, 3, 8, 2, 614, .null, []), (134, .iconst 1, 1, 0, 0, 0, .int 1, []), (135, .iadd, 1, 0, 0, 0, .null, []), (136, .putfield 101, 3, 8, 2, 614, .null, []), (139, .aload_n 0, 1, 0, 0, 0, .null, []), (140, .invokevirtual 155, 3, 110, 0, 726, .ref 8, []), (143, .ifCond .ne 5, 3, 148, 0, 0, .null, [])],
  [(146, .iconst 0, 1, 0, 0, 0, .int 0, []), (147, .ireturn, 1, 1, 0, 0, .null, []), (148, .iload 6, 2, 0, 0, 0, .null, []), (150, .bipush 45, 2, 0, 0, 0, .int 45, []), (152, .if_icmp .ne 11, 3, 163, 0, 0, .null, []), (155, .aload_n 0, 1, 0, 0, 0, .null, []), (156, .getfield 138, 3, 8, 9, 621, .null, []), (159, .lneg, 1, 0, 0, 0, .null, [])],
  [(160, .goto 7, 3, 167, 0, 0, .null, []), (163, .aload_n 0, 1, 0, 0, 0, .null, []), (164, .getfield 138, 3, 8, 9, 621, .null, []), (167, .lstore 4, 2, 0, 0, 0, .null, []), (169, .goto 39, 3, 208, 0, 0, .null, []), (172, .aload_n 0, 1, 0, 0, 0, .null, []), (173, .bipush 45, 2, 0, 0, 0, .int 45, []), (175, .invokevirtual 152, 3, 105, 1, 723, .ref 8, [])],
  [(178, .istore 6, 2, 0, 0, 0, .null, []), (180, .aload_n 0, 1, 0, 0, 0, .null, []), (181, .invokevirtual 155, 3, 110, 0, 726, .ref 8, []), (184, .ifCond .ne 5, 3, 189, 0, 0, .null, []), (187, .iconst 0, 1, 0, 0, 0, .int 0, []), (188, .ireturn, 1, 1, 0, 0, .null, []), (189, .iload 6, 2, 0, 0, 0, .null, []), (191, .ifCond .eq 11, 3, 202, 0, 0, .null, [])],
  [(194, .aload_n 0, 1, 0, 0, 0, .null, []), (195, .getfield 138, 3, 8, 9, 621, .null, []), (198, .lneg, 1, 0, 0, 0, .null, []), (199, .goto 7, 3, 206, 0, 0, .null, []), (202, .aload_n 0, 1, 0, 0, 0, .null, []), (203, .getfield 138, 3, 8, 9, 621, .null, []), (206, .lstore 4, 2, 0, 0, 0, .null, [])],
  [(208, .aload_n 0, 1, 0, 0, 0, .null, []), (209, .getfield 22, 3, 8, 11, 623, .null, []), (212, .aload_n 0, 1, 0, 0, 0, .null, []), (213, .getfield 146, 3, 8, 15, 627, .null, []), (216, .iload_n 2, 1, 0, 0, 0, .null, []), (217, .iastore, 1, 0, 0, 0, .null, []), (218, .aload_n 0, 1, 0, 0, 0, .null, []), (219, .getfield 25, 3, 8, 12, 624, .null, []), (222, .aload_n 0, 1, 0, 0, 0, .null, []), (223, .getfield 146, 3, 8, 15, 627, .null, [])],
  [(226, .iload_n 3, 1, 0, 0, 0, .null, []), (227, .iastore, 1, 0, 0, 0, .null, []), (228, .aload_n 0, 1, 0, 0, 0, .null, []), (229, .getfield 28, 3, 8, 13, 625, .null, []), (232, .aload_n 0, 1, 0, 0, 0, .null, []), (233, .getfield 146, 3, 8, 15, 627, .null, []), (236, .lload 4, 2, 0, 0, 0, .null, []), (238, .lastore, 1, 0, 0, 0, .null, []), (239, .aload_n 0, 1, 0, 0, 0, .null, [])],
  [(240, .getfield 32, 3, 8, 14, 626, .null, []), (243, .aload_n 0, 1, 0, 0, 0, .null, []), (244, .getfield 146, 3, 8, 15, 627, .null, []), (247, .iconst 0, 1, 0, 0, 0, .int 0, []), (248, .bastore, 1, 0, 0, 0, .null, []), (249, .aload_n 0, 1, 0, 0, 0, .null, []), (250, .dup, 1, 0, 0, 0, .null, []), (251, .getfield 146, 3, 8, 15, 627, .null, []), (254, .iconst 1, 1, 0, 0, 0, .int 1, []), (255, .iadd, 1, 0, 0, 0, .null, [])],
  [(256, .putfield 146, 3, 8, 15, 627, .null, []), (259, .iconst 1, 1, 0, 0, 0, .int 1, []), (260, .ireturn, 1, 1, 0, 0, .null, [])]]
def ia_m_X8_readsStatement : ia_M := ("OffsetBookModel", ⟨"OffsetBookModel", "readsStatement", "(I)Z"⟩, prog_10_method_16_code, 7, (some .boolean), 1, ia_k_X8_readsStatement, (698, 82, 697, 37), (3, 68))
def ia_k_X8_readsAll : List (List ia_E) := [[(0, .aload_n 0, 1, 0, 0, 0, .null, []), (1, .iconst 0, 1, 0, 0, 0, .int 0, []), (2, .putfield 101, 3, 8, 2, 614, .null, []), (5, .aload_n 0, 1, 0, 0, 0, .null, []), (6, .aload_n 0, 1, 0, 0, 0, .null, []), (7, .getfield 84, 3, 8, 4, 616, .null, []), (10, .putfield 126, 3, 8, 6, 618, .null, []), (13, .aload_n 0, 1, 0, 0, 0, .null, []), (14, .aload_n 0, 1, 0, 0, 0, .null, []), (15, .getfield 159, 3, 8, 10, 622, .null, [])],
  [(18, .putfield 146, 3, 8, 15, 627, .null, []), (21, .iconst 0, 1, 0, 0, 0, .int 0, []), (22, .istore_n 2, 1, 0, 0, 0, .null, []), (23, .iconst 1, 1, 0, 0, 0, .int 1, []), (24, .istore_n 3, 1, 0, 0, 0, .null, []), (25, .iload_n 3, 1, 0, 0, 0, .null, []), (26, .ifCond .eq 38, 3, 64, 0, 0, .null, []), (29, .aload_n 0, 1, 0, 0, 0, .null, []), (30, .iload_n 2, 1, 0, 0, 0, .null, []), (31, .invokevirtual 162, 3, 111, 1, 696, .ref 8, [])],
  [(34, .ifCond .ne 5, 3, 39, 0, 0, .null, []), (37, .iconst 0, 1, 0, 0, 0, .int 0, []), (38, .ireturn, 1, 1, 0, 0, .null, []), (39, .iinc 2 1, 3, 0, 0, 0, .int 1, []), (42, .iload_n 1, 1, 0, 0, 0, .null, []), (43, .ifCond .ne 16, 3, 59, 0, 0, .null, []), (46, .aload_n 0, 1, 0, 0, 0, .null, []), (47, .bipush 59, 2, 0, 0, 0, .int 59, [])],
  [(49, .invokevirtual 152, 3, 105, 1, 723, .ref 8, []), (52, .ifCond .eq 7, 3, 59, 0, 0, .null, []), (55, .iconst 1, 1, 0, 0, 0, .int 1, []), (56, .goto 4, 3, 60, 0, 0, .null, []), (59, .iconst 0, 1, 0, 0, 0, .int 0, []), (60, .istore_n 3, 1, 0, 0, 0, .null, []), (61, .goto (-36), 3, 25, 0, 0, .null, [])],
  [(64, .aload_n 0, 1, 0, 0, 0, .null, []), (65, .invokevirtual 108, 3, 102, 0, 699, .ref 8, []), (68, .iconst (-1), 1, 0, 0, 0, .int (-1), []), (69, .if_icmp .eq 15, 3, 84, 0, 0, .null, []), (72, .aload_n 0, 1, 0, 0, 0, .null, []), (73, .iconst 1, 1, 0, 0, 0, .int 1, []), (74, .aload_n 0, 1, 0, 0, 0, .null, []), (75, .getfield 101, 3, 8, 2, 614, .null, []), (78, .invokevirtual 122, 3, 100, 2, 708, .ref 8, [])],
  [(81, .ifCond .eq 7, 3, 88, 0, 0, .null, []), (84, .iconst 1, 1, 0, 0, 0, .int 1, []), (85, .goto 4, 3, 89, 0, 0, .null, []), (88, .iconst 0, 1, 0, 0, 0, .int 0, []), (89, .ireturn, 1, 1, 0, 0, .null, [])]]
def ia_m_X8_readsAll : ia_M := ("OffsetBookModel", ⟨"OffsetBookModel", "readsAll", "(Z)Z"⟩, prog_10_method_17_code, 4, (some .boolean), 1, ia_k_X8_readsAll, (695, 82, 694, 36), (4, 94))
def ia_k_X8_tell : List (List ia_E) := [[(0, .aload_n 0, 1, 0, 0, 0, .null, []), (1, .iconst 0, 1, 0, 0, 0, .int 0, []), (2, .invokevirtual 165, 3, 112, 1, 693, .ref 8, []), (5, .istore_n 1, 1, 0, 0, 0, .null, []), (6, .aload_n 0, 1, 0, 0, 0, .null, []), (7, .iconst 0, 1, 0, 0, 0, .int 0, []), (8, .putfield 91, 3, 8, 1, 613, .null, []), (11, .iload_n 1, 1, 0, 0, 0, .null, []), (12, .ifCond .ne 11, 3, 23, 0, 0, .null, []), (15, .bipush (-2), 2, 0, 0, 0, .int (-2), [])],
  [(17, .aload_n 0, 1, 0, 0, 0, .null, []), (18, .getfield 98, 3, 8, 3, 615, .null, []), (21, .isub, 1, 0, 0, 0, .null, []), (22, .ireturn, 1, 0, 0, 0, .null, []), (23, .aload_n 0, 1, 0, 0, 0, .null, []), (24, .invokevirtual 169, 3, 127, 0, 734, .ref 8, []), (27, .aload_n 0, 1, 0, 0, 0, .null, []), (28, .aload_n 0, 1, 0, 0, 0, .null, []), (29, .getfield 126, 3, 8, 6, 618, .null, [])],
  [(32, .putfield 84, 3, 8, 4, 616, .null, []), (35, .aload_n 0, 1, 0, 0, 0, .null, []), (36, .aload_n 0, 1, 0, 0, 0, .null, []), (37, .getfield 146, 3, 8, 15, 627, .null, []), (40, .putfield 159, 3, 8, 10, 622, .null, []), (43, .aload_n 0, 1, 0, 0, 0, .null, []), (44, .invokevirtual 88, 3, 117, 0, 602, .ref 8, []), (47, .aload_n 0, 1, 0, 0, 0, .null, [])],
  [(48, .getfield 159, 3, 8, 10, 622, .null, []), (51, .ireturn, 1, 0, 0, 0, .null, [])]]
def ia_m_X8_tell : ia_M := ("OffsetBookModel", ⟨"OffsetBookModel", "tell", "()I"⟩, prog_10_method_18_code, 2, (some .int), 0, ia_k_X8_tell, (692, 82, 690, 691), (5, 117))
def ia_k_X8_test : List (List ia_E) := [[(0, .aload_n 0, 1, 0, 0, 0, .null, []), (1, .iconst 1, 1, 0, 0, 0, .int 1, []), (2, .invokevirtual 165, 3, 112, 1, 693, .ref 8, []), (5, .istore_n 1, 1, 0, 0, 0, .null, []), (6, .aload_n 0, 1, 0, 0, 0, .null, []), (7, .iconst 0, 1, 0, 0, 0, .int 0, []), (8, .putfield 91, 3, 8, 1, 613, .null, []), (11, .iload_n 1, 1, 0, 0, 0, .null, []), (12, .ifCond .ne 11, 3, 23, 0, 0, .null, []), (15, .bipush (-2), 2, 0, 0, 0, .int (-2), [])],
  [(17, .aload_n 0, 1, 0, 0, 0, .null, []), (18, .getfield 98, 3, 8, 3, 615, .null, []), (21, .isub, 1, 0, 0, 0, .null, []), (22, .ireturn, 1, 0, 0, 0, .null, []), (23, .aload_n 0, 1, 0, 0, 0, .null, []), (24, .getfield 84, 3, 8, 4, 616, .null, []), (27, .istore_n 2, 1, 0, 0, 0, .null, []), (28, .iload_n 2, 1, 0, 0, 0, .null, []), (29, .aload_n 0, 1, 0, 0, 0, .null, []), (30, .getfield 126, 3, 8, 6, 618, .null, [])],
  [(33, .if_icmp .ge 23, 3, 56, 0, 0, .null, []), (36, .aload_n 0, 1, 0, 0, 0, .null, []), (37, .getfield 36, 3, 8, 16, 628, .null, []), (40, .iload_n 2, 1, 0, 0, 0, .null, []), (41, .iload_n 2, 1, 0, 0, 0, .null, []), (42, .iastore, 1, 0, 0, 0, .null, []), (43, .aload_n 0, 1, 0, 0, 0, .null, []), (44, .getfield 39, 3, 8, 17, 629, .null, []), (47, .iload_n 2, 1, 0, 0, 0, .null, [])],
  [(48, .lconst 0, 1, 0, 0, 0, .long 0, []), (49, .lastore, 1, 0, 0, 0, .null, []), (50, .iinc 2 1, 3, 0, 0, 0, .int 1, []), (53, .goto (-25), 3, 28, 0, 0, .null, []), (56, .aload_n 0, 1, 0, 0, 0, .null, []), (57, .getfield 84, 3, 8, 4, 616, .null, []), (60, .istore_n 2, 1, 0, 0, 0, .null, []), (61, .aload_n 0, 1, 0, 0, 0, .null, []), (62, .aload_n 0, 1, 0, 0, 0, .null, []), (63, .getfield 126, 3, 8, 6, 618, .null, [])],
  [(66, .putfield 84, 3, 8, 4, 616, .null, []), (69, .aload_n 0, 1, 0, 0, 0, .null, []), (70, .aload_n 0, 1, 0, 0, 0, .null, []), (71, .getfield 159, 3, 8, 10, 622, .null, []), (74, .invokevirtual 172, 3, 115, 1, 605, .ref 8, []), (77, .istore_n 3, 1, 0, 0, 0, .null, []), (78, .aload_n 0, 1, 0, 0, 0, .null, []), (79, .iload_n 2, 1, 0, 0, 0, .null, [])],
  [(80, .putfield 84, 3, 8, 4, 616, .null, []), (83, .iload_n 3, 1, 0, 0, 0, .null, []), (84, .ireturn, 1, 0, 0, 0, .null, [])]]
def ia_m_X8_test : ia_M := ("OffsetBookModel", ⟨"OffsetBookModel", "test", "()I"⟩, prog_10_method_19_code, 4, (some .int), 0, ia_k_X8_test, (746, 82, 744, 745), (5, 117))
def ia_k_X8_judgedAs : List (List ia_E) := [[(0, .aload_n 0, 1, 0, 0, 0, .null, []), (1, .getfield 22, 3, 8, 11, 623, .null, []), (4, .iload_n 1, 1, 0, 0, 0, .null, []), (5, .iaload, 1, 0, 0, 0, .null, []), (6, .istore_n 2, 1, 0, 0, 0, .null, []), (7, .aload_n 0, 1, 0, 0, 0, .null, []), (8, .getfield 25, 3, 8, 12, 624, .null, []), (11, .iload_n 1, 1, 0, 0, 0, .null, []), (12, .iaload, 1, 0, 0, 0, .null, []), (13, .istore_n 3, 1, 0, 0, 0, .null, []), (14, .aload_n 0, 1, 0, 0, 0, .null, []), (15, .getfield 36, 3, 8, 16, 628, .null, [])],
  [(18, .iload_n 2, 1, 0, 0, 0, .null, []), (19, .iaload, 1, 0, 0, 0, .null, []), (20, .aload_n 0, 1, 0, 0, 0, .null, []), (21, .getfield 36, 3, 8, 16, 628, .null, []), (24, .iload_n 3, 1, 0, 0, 0, .null, []), (25, .iaload, 1, 0, 0, 0, .null, []), (26, .if_icmp .ne 32, 3, 58, 0, 0, .null, []), (29, .aload_n 0, 1, 0, 0, 0, .null, []), (30, .getfield 39, 3, 8, 17, 629, .null, [])],
  [(33, .iload_n 2, 1, 0, 0, 0, .null, []), (34, .laload, 1, 0, 0, 0, .null, []), (35, .aload_n 0, 1, 0, 0, 0, .null, []), (36, .getfield 39, 3, 8, 17, 629, .null, []), (39, .iload_n 3, 1, 0, 0, 0, .null, []), (40, .laload, 1, 0, 0, 0, .null, []), (41, .lsub, 1, 0, 0, 0, .null, []), (42, .aload_n 0, 1, 0, 0, 0, .null, []), (43, .getfield 28, 3, 8, 13, 625, .null, []), (46, .iload_n 1, 1, 0, 0, 0, .null, []), (47, .laload, 1, 0, 0, 0, .null, [])],
  [(48, .lcmp, 1, 0, 0, 0, .null, []), (49, .ifCond .ne 7, 3, 56, 0, 0, .null, []), (52, .iconst 1, 1, 0, 0, 0, .int 1, []), (53, .goto 4, 3, 57, 0, 0, .null, []), (56, .iconst 2, 1, 0, 0, 0, .int 2, []), (57, .ireturn, 1, 0, 0, 0, .null, []), (58, .aload_n 0, 1, 0, 0, 0, .null, []), (59, .getfield 39, 3, 8, 17, 629, .null, []), (62, .iload_n 3, 1, 0, 0, 0, .null, []), (63, .laload, 1, 0, 0, 0, .null, [])],
  [(64, .aload_n 0, 1, 0, 0, 0, .null, []), (65, .getfield 28, 3, 8, 13, 625, .null, []), (68, .iload_n 1, 1, 0, 0, 0, .null, []), (69, .laload, 1, 0, 0, 0, .null, []), (70, .ladd, 1, 0, 0, 0, .null, []), (71, .aload_n 0, 1, 0, 0, 0, .null, []), (72, .getfield 39, 3, 8, 17, 629, .null, []), (75, .iload_n 2, 1, 0, 0, 0, .null, []), (76, .laload, 1, 0, 0, 0, .null, []), (77, .lsub, 1, 0, 0, 0, .null, []), (78, .lstore 4, 2, 0, 0, 0, .null, [])],
  [(80, .lconst 0, 1, 0, 0, 0, .long 0, []), (81, .lstore 6, 2, 0, 0, 0, .null, []), (83, .lconst 0, 1, 0, 0, 0, .long 0, []), (84, .lstore 8, 2, 0, 0, 0, .null, []), (86, .iconst 1, 1, 0, 0, 0, .int 1, []), (87, .istore 10, 2, 0, 0, 0, .null, []), (89, .iconst 0, 1, 0, 0, 0, .int 0, []), (90, .istore 11, 2, 0, 0, 0, .null, []), (92, .iload 11, 2, 0, 0, 0, .null, []), (94, .aload_n 0, 1, 0, 0, 0, .null, []), (95, .getfield 84, 3, 8, 4, 616, .null, [])],
  [(98, .if_icmp .ge 129, 3, 227, 0, 0, .null, []), (101, .aload_n 0, 1, 0, 0, 0, .null, []), (102, .getfield 36, 3, 8, 16, 628, .null, []), (105, .iload 11, 2, 0, 0, 0, .null, []), (107, .iaload, 1, 0, 0, 0, .null, []), (108, .aload_n 0, 1, 0, 0, 0, .null, []), (109, .getfield 36, 3, 8, 16, 628, .null, [])],
  [(112, .iload_n 2, 1, 0, 0, 0, .null, []), (113, .iaload, 1, 0, 0, 0, .null, []), (114, .if_icmp .eq 22, 3, 136, 0, 0, .null, []), (117, .aload_n 0, 1, 0, 0, 0, .null, []), (118, .getfield 36, 3, 8, 16, 628, .null, []), (121, .iload 11, 2, 0, 0, 0, .null, []), (123, .iaload, 1, 0, 0, 0, .null, []), (124, .aload_n 0, 1, 0, 0, 0, .null, []), (125, .getfield 36, 3, 8, 16, 628, .null, [])],
  [(128, .iload_n 3, 1, 0, 0, 0, .null, []), (129, .iaload, 1, 0, 0, 0, .null, []), (130, .if_icmp .eq 6, 3, 136, 0, 0, .null, []), (133, .goto 88, 3, 221, 0, 0, .null, []), (136, .aload_n 0, 1, 0, 0, 0, .null, []), (137, .getfield 36, 3, 8, 16, 628, .null, []), (140, .iload 11, 2, 0, 0, 0, .null, []), (142, .iaload, 1, 0, 0, 0, .null, []), (143, .aload_n 0, 1, 0, 0, 0, .null, [])],
  [(144, .getfield 36, 3, 8, 16, 628, .null, []), (147, .iload_n 2, 1, 0, 0, 0, .null, []), (148, .iaload, 1, 0, 0, 0, .null, []), (149, .if_icmp .ne 16, 3, 165, 0, 0, .null, []), (152, .aload_n 0, 1, 0, 0, 0, .null, []), (153, .getfield 39, 3, 8, 17, 629, .null, []), (156, .iload 11, 2, 0, 0, 0, .null, []), (158, .laload, 1, 0, 0, 0, .null, []), (159, .lload 4, 2, 0, 0, 0, .null, [])],
  [(161, .ladd, 1, 0, 0, 0, .null, []), (162, .goto 10, 3, 172, 0, 0, .null, []), (165, .aload_n 0, 1, 0, 0, 0, .null, []), (166, .getfield 39, 3, 8, 17, 629, .null, []), (169, .iload 11, 2, 0, 0, 0, .null, []), (171, .laload, 1, 0, 0, 0, .null, []), (172, .lstore 12, 2, 0, 0, 0, .null, []), (174, .iload 10, 2, 0, 0, 0, .null, [])],
  [(176, .ifCond .ne 11, 3, 187, 0, 0, .null, []), (179, .lload 12, 2, 0, 0, 0, .null, []), (181, .lload 6, 2, 0, 0, 0, .null, []), (183, .lcmp, 1, 0, 0, 0, .null, []), (184, .ifCond .ge 8, 3, 192, 0, 0, .null, []), (187, .lload 12, 2, 0, 0, 0, .null, []), (189, .goto 5, 3, 194, 0, 0, .null, [])],
  [(192, .lload 6, 2, 0, 0, 0, .null, []), (194, .lstore 6, 2, 0, 0, 0, .null, []), (196, .iload 10, 2, 0, 0, 0, .null, []), (198, .ifCond .ne 11, 3, 209, 0, 0, .null, []), (201, .lload 12, 2, 0, 0, 0, .null, []), (203, .lload 8, 2, 0, 0, 0, .null, []), (205, .lcmp, 1, 0, 0, 0, .null, []), (206, .ifCond .le 8, 3, 214, 0, 0, .null, [])],
  [(209, .lload 12, 2, 0, 0, 0, .null, []), (211, .goto 5, 3, 216, 0, 0, .null, []), (214, .lload 8, 2, 0, 0, 0, .null, []), (216, .lstore 8, 2, 0, 0, 0, .null, []), (218, .iconst 0, 1, 0, 0, 0, .int 0, []), (219, .istore 10, 2, 0, 0, 0, .null, []), (221, .iinc 11 1, 3, 0, 0, 0, .int 1, [])],
  [(224, .goto (-132), 3, 92, 0, 0, .null, []), (227, .lload 8, 2, 0, 0, 0, .null, []), (229, .lload 6, 2, 0, 0, 0, .null, []), (231, .lsub, 1, 0, 0, 0, .null, []), (232, .ldc2_w 175, 3, 0, 0, 608, .long 1000000000000000000, []), (235, .lcmp, 1, 0, 0, 0, .null, []), (236, .ifCond .le 7, 3, 243, 0, 0, .null, []), (239, .iconst 3, 1, 0, 0, 0, .int 3, [])],
  [(240, .goto 4, 3, 244, 0, 0, .null, []), (243, .iconst 0, 1, 0, 0, 0, .int 0, []), (244, .ireturn, 1, 0, 0, 0, .null, [])]]
def ia_m_X8_judgedAs : ia_M := ("OffsetBookModel", ⟨"OffsetBookModel", "judgedAs", "(I)I"⟩, prog_10_method_20_code, 14, (some .int), 1, ia_k_X8_judgedAs, (607, 82, 606, 34), (0, 0))
def ia_k_X8_joins : List (List ia_E) := [[(0, .aload_n 0, 1, 0, 0, 0, .null, []), (1, .getfield 36, 3, 8, 16, 628, .null, []), (4, .aload_n 0, 1, 0, 0, 0, .null, []), (5, .getfield 22, 3, 8, 11, 623, .null, []), (8, .iload_n 1, 1, 0, 0, 0, .null, []), (9, .iaload, 1, 0, 0, 0, .null, []), (10, .iaload, 1, 0, 0, 0, .null, []), (11, .istore_n 2, 1, 0, 0, 0, .null, []), (12, .aload_n 0, 1, 0, 0, 0, .null, []), (13, .getfield 36, 3, 8, 16, 628, .null, [])],
  [(16, .aload_n 0, 1, 0, 0, 0, .null, []), (17, .getfield 25, 3, 8, 12, 624, .null, []), (20, .iload_n 1, 1, 0, 0, 0, .null, []), (21, .iaload, 1, 0, 0, 0, .null, []), (22, .iaload, 1, 0, 0, 0, .null, []), (23, .istore_n 3, 1, 0, 0, 0, .null, []), (24, .aload_n 0, 1, 0, 0, 0, .null, []), (25, .getfield 39, 3, 8, 17, 629, .null, []), (28, .aload_n 0, 1, 0, 0, 0, .null, []), (29, .getfield 25, 3, 8, 12, 624, .null, [])],
  [(32, .iload_n 1, 1, 0, 0, 0, .null, []), (33, .iaload, 1, 0, 0, 0, .null, []), (34, .laload, 1, 0, 0, 0, .null, []), (35, .aload_n 0, 1, 0, 0, 0, .null, []), (36, .getfield 28, 3, 8, 13, 625, .null, []), (39, .iload_n 1, 1, 0, 0, 0, .null, []), (40, .laload, 1, 0, 0, 0, .null, []), (41, .ladd, 1, 0, 0, 0, .null, []), (42, .aload_n 0, 1, 0, 0, 0, .null, []), (43, .getfield 39, 3, 8, 17, 629, .null, []), (46, .aload_n 0, 1, 0, 0, 0, .null, []), (47, .getfield 22, 3, 8, 11, 623, .null, [])],
  [(50, .iload_n 1, 1, 0, 0, 0, .null, []), (51, .iaload, 1, 0, 0, 0, .null, []), (52, .laload, 1, 0, 0, 0, .null, []), (53, .lsub, 1, 0, 0, 0, .null, []), (54, .lstore 4, 2, 0, 0, 0, .null, []), (56, .iload_n 2, 1, 0, 0, 0, .null, []), (57, .iload_n 3, 1, 0, 0, 0, .null, []), (58, .if_icmp .ge 7, 3, 65, 0, 0, .null, []), (61, .iload_n 2, 1, 0, 0, 0, .null, []), (62, .goto 4, 3, 66, 0, 0, .null, [])],
  [(65, .iload_n 3, 1, 0, 0, 0, .null, []), (66, .istore 6, 2, 0, 0, 0, .null, []), (68, .iload 6, 2, 0, 0, 0, .null, []), (70, .iload_n 3, 1, 0, 0, 0, .null, []), (71, .if_icmp .ne 7, 3, 78, 0, 0, .null, []), (74, .lconst 0, 1, 0, 0, 0, .long 0, []), (75, .goto 13, 3, 88, 0, 0, .null, []), (78, .aload_n 0, 1, 0, 0, 0, .null, []), (79, .getfield 39, 3, 8, 17, 629, .null, [])],
  [(82, .iload 6, 2, 0, 0, 0, .null, []), (84, .laload, 1, 0, 0, 0, .null, []), (85, .lload 4, 2, 0, 0, 0, .null, []), (87, .ladd, 1, 0, 0, 0, .null, []), (88, .lstore 7, 2, 0, 0, 0, .null, []), (90, .iconst 0, 1, 0, 0, 0, .int 0, []), (91, .istore 9, 2, 0, 0, 0, .null, []), (93, .iload 9, 2, 0, 0, 0, .null, []), (95, .aload_n 0, 1, 0, 0, 0, .null, [])],
  [(96, .getfield 84, 3, 8, 4, 616, .null, []), (99, .if_icmp .ge 80, 3, 179, 0, 0, .null, []), (102, .aload_n 0, 1, 0, 0, 0, .null, []), (103, .getfield 36, 3, 8, 16, 628, .null, []), (106, .iload 9, 2, 0, 0, 0, .null, []), (108, .iaload, 1, 0, 0, 0, .null, []), (109, .iload_n 2, 1, 0, 0, 0, .null, []), (110, .if_icmp .ne 26, 3, 136, 0, 0, .null, [])],
  [(113, .aload_n 0, 1, 0, 0, 0, .null, []), (114, .getfield 39, 3, 8, 17, 629, .null, []), (117, .iload 9, 2, 0, 0, 0, .null, []), (119, .aload_n 0, 1, 0, 0, 0, .null, []), (120, .getfield 39, 3, 8, 17, 629, .null, []), (123, .iload 9, 2, 0, 0, 0, .null, []), (125, .laload, 1, 0, 0, 0, .null, []), (126, .lload 4, 2, 0, 0, 0, .null, [])],
  [(128, .ladd, 1, 0, 0, 0, .null, []), (129, .lload 7, 2, 0, 0, 0, .null, []), (131, .lsub, 1, 0, 0, 0, .null, []), (132, .lastore, 1, 0, 0, 0, .null, []), (133, .goto 31, 3, 164, 0, 0, .null, []), (136, .aload_n 0, 1, 0, 0, 0, .null, []), (137, .getfield 36, 3, 8, 16, 628, .null, []), (140, .iload 9, 2, 0, 0, 0, .null, []), (142, .iaload, 1, 0, 0, 0, .null, []), (143, .iload_n 3, 1, 0, 0, 0, .null, [])],
  [(144, .if_icmp .ne 29, 3, 173, 0, 0, .null, []), (147, .aload_n 0, 1, 0, 0, 0, .null, []), (148, .getfield 39, 3, 8, 17, 629, .null, []), (151, .iload 9, 2, 0, 0, 0, .null, []), (153, .aload_n 0, 1, 0, 0, 0, .null, []), (154, .getfield 39, 3, 8, 17, 629, .null, []), (157, .iload 9, 2, 0, 0, 0, .null, []), (159, .laload, 1, 0, 0, 0, .null, [])],
  [(160, .lload 7, 2, 0, 0, 0, .null, []), (162, .lsub, 1, 0, 0, 0, .null, []), (163, .lastore, 1, 0, 0, 0, .null, []), (164, .aload_n 0, 1, 0, 0, 0, .null, []), (165, .getfield 36, 3, 8, 16, 628, .null, []), (168, .iload 9, 2, 0, 0, 0, .null, []), (170, .iload 6, 2, 0, 0, 0, .null, []), (172, .iastore, 1, 0, 0, 0, .null, []), (173, .iinc 9 1, 3, 0, 0, 0, .int 1, [])],
  [(176, .goto (-83), 3, 93, 0, 0, .null, []), (179, .return_, 1, 0, 0, 0, .null, [])]]
def ia_m_X8_joins : ia_M := ("OffsetBookModel", ⟨"OffsetBookModel", "joins", "(I)V"⟩, prog_10_method_21_code, 10, none, 1, ia_k_X8_joins, (611, 82, 610, 35), (0, 0))
def ia_k_X8_judges : List (List ia_E) := [[(0, .iconst 0, 1, 0, 0, 0, .int 0, []), (1, .istore_n 1, 1, 0, 0, 0, .null, []), (2, .iload_n 1, 1, 0, 0, 0, .null, []), (3, .aload_n 0, 1, 0, 0, 0, .null, []), (4, .getfield 84, 3, 8, 4, 616, .null, []), (7, .if_icmp .ge 23, 3, 30, 0, 0, .null, []), (10, .aload_n 0, 1, 0, 0, 0, .null, []), (11, .getfield 36, 3, 8, 16, 628, .null, []), (14, .iload_n 1, 1, 0, 0, 0, .null, []), (15, .iload_n 1, 1, 0, 0, 0, .null, [])],
  [(16, .iastore, 1, 0, 0, 0, .null, []), (17, .aload_n 0, 1, 0, 0, 0, .null, []), (18, .getfield 39, 3, 8, 17, 629, .null, []), (21, .iload_n 1, 1, 0, 0, 0, .null, []), (22, .lconst 0, 1, 0, 0, 0, .long 0, []), (23, .lastore, 1, 0, 0, 0, .null, []), (24, .iinc 1 1, 3, 0, 0, 0, .int 1, []), (27, .goto (-25), 3, 2, 0, 0, .null, []), (30, .iconst 0, 1, 0, 0, 0, .int 0, []), (31, .istore_n 1, 1, 0, 0, 0, .null, [])],
  [(32, .iload_n 1, 1, 0, 0, 0, .null, []), (33, .aload_n 0, 1, 0, 0, 0, .null, []), (34, .getfield 159, 3, 8, 10, 622, .null, []), (37, .if_icmp .ge 47, 3, 84, 0, 0, .null, []), (40, .aload_n 0, 1, 0, 0, 0, .null, []), (41, .getfield 42, 3, 8, 18, 630, .null, []), (44, .iload_n 1, 1, 0, 0, 0, .null, []), (45, .aload_n 0, 1, 0, 0, 0, .null, []), (46, .getfield 32, 3, 8, 14, 626, .null, [])],
  [(49, .iload_n 1, 1, 0, 0, 0, .null, []), (50, .baload, 1, 0, 0, 0, .null, []), (51, .ifCond .eq 7, 3, 58, 0, 0, .null, []), (54, .iconst 4, 1, 0, 0, 0, .int 4, []), (55, .goto 8, 3, 63, 0, 0, .null, []), (58, .aload_n 0, 1, 0, 0, 0, .null, []), (59, .iload_n 1, 1, 0, 0, 0, .null, []), (60, .invokevirtual 172, 3, 115, 1, 605, .ref 8, []), (63, .iastore, 1, 0, 0, 0, .null, [])],
  [(64, .aload_n 0, 1, 0, 0, 0, .null, []), (65, .getfield 42, 3, 8, 18, 630, .null, []), (68, .iload_n 1, 1, 0, 0, 0, .null, []), (69, .iaload, 1, 0, 0, 0, .null, []), (70, .ifCond .ne 8, 3, 78, 0, 0, .null, []), (73, .aload_n 0, 1, 0, 0, 0, .null, []), (74, .iload_n 1, 1, 0, 0, 0, .null, []), (75, .invokevirtual 177, 3, 116, 1, 609, .ref 8, []), (78, .iinc 1 1, 3, 0, 0, 0, .int 1, [])],
  [(81, .goto (-49), 3, 32, 0, 0, .null, []), (84, .return_, 1, 0, 0, 0, .null, [])]]
def ia_m_X8_judges : ia_M := ("OffsetBookModel", ⟨"OffsetBookModel", "judges", "()V"⟩, prog_10_method_22_code, 2, none, 0, ia_k_X8_judges, (604, 82, 603, 33), (1, 33))
def ia_k_X8_isStatement : List (List ia_E) := [[(0, .iload_n 1, 1, 0, 0, 0, .null, []), (1, .ifCond .lt 15, 3, 16, 0, 0, .null, []), (4, .iload_n 1, 1, 0, 0, 0, .null, []), (5, .aload_n 0, 1, 0, 0, 0, .null, []), (6, .getfield 159, 3, 8, 10, 622, .null, []), (9, .if_icmp .ge 7, 3, 16, 0, 0, .null, []), (12, .iconst 1, 1, 0, 0, 0, .int 1, []), (13, .goto 4, 3, 17, 0, 0, .null, [])],
  [(16, .iconst 0, 1, 0, 0, 0, .int 0, []), (17, .ireturn, 1, 1, 0, 0, .null, [])]]
def ia_m_X8_isStatement : ia_M := ("OffsetBookModel", ⟨"OffsetBookModel", "isStatement", "(I)Z"⟩, prog_10_method_23_code, 2, (some .boolean), 1, ia_k_X8_isStatement, (756, 82, 755, 51), (0, 0))
def ia_k_X8_isStanding : List (List ia_E) := [[(0, .aload_n 0, 1, 0, 0, 0, .null, []), (1, .getfield 42, 3, 8, 18, 630, .null, []), (4, .iload_n 1, 1, 0, 0, 0, .null, []), (5, .iaload, 1, 0, 0, 0, .null, []), (6, .iconst 1, 1, 0, 0, 0, .int 1, []), (7, .if_icmp .gt 7, 3, 14, 0, 0, .null, []), (10, .iconst 1, 1, 0, 0, 0, .int 1, []), (11, .goto 4, 3, 15, 0, 0, .null, []), (14, .iconst 0, 1, 0, 0, 0, .int 0, []), (15, .ireturn, 1, 1, 0, 0, .null, [])]]
def ia_m_X8_isStanding : ia_M := ("OffsetBookModel", ⟨"OffsetBookModel", "isStanding", "(I)Z"⟩, prog_10_method_24_code, 2, (some .boolean), 1, ia_k_X8_isStanding, (792, 82, 791, 56), (0, 0))
def ia_k_X8_manyOf : List (List ia_E) := [[(0, .iconst 0, 1, 0, 0, 0, .int 0, []), (1, .istore_n 2, 1, 0, 0, 0, .null, []), (2, .iconst 0, 1, 0, 0, 0, .int 0, []), (3, .istore_n 3, 1, 0, 0, 0, .null, []), (4, .iload_n 3, 1, 0, 0, 0, .null, []), (5, .aload_n 0, 1, 0, 0, 0, .null, []), (6, .getfield 159, 3, 8, 10, 622, .null, []), (9, .if_icmp .ge 27, 3, 36, 0, 0, .null, []), (12, .iload_n 2, 1, 0, 0, 0, .null, []), (13, .aload_n 0, 1, 0, 0, 0, .null, []), (14, .getfield 42, 3, 8, 18, 630, .null, [])],
  [(17, .iload_n 3, 1, 0, 0, 0, .null, []), (18, .iaload, 1, 0, 0, 0, .null, []), (19, .iload_n 1, 1, 0, 0, 0, .null, []), (20, .if_icmp .ne 7, 3, 27, 0, 0, .null, []), (23, .iconst 1, 1, 0, 0, 0, .int 1, []), (24, .goto 4, 3, 28, 0, 0, .null, []), (27, .iconst 0, 1, 0, 0, 0, .int 0, []), (28, .iadd, 1, 0, 0, 0, .null, []), (29, .istore_n 2, 1, 0, 0, 0, .null, []), (30, .iinc 3 1, 3, 0, 0, 0, .int 1, [])],
  [(33, .goto (-29), 3, 4, 0, 0, .null, []), (36, .iload_n 2, 1, 0, 0, 0, .null, []), (37, .ireturn, 1, 0, 0, 0, .null, [])]]
def ia_m_X8_manyOf : ia_M := ("OffsetBookModel", ⟨"OffsetBookModel", "manyOf", "(I)I"⟩, prog_10_method_25_code, 4, (some .int), 1, ia_k_X8_manyOf, (762, 82, 761, 53), (0, 0))
def ia_k_X8_standing : List (List ia_E) := [[(0, .aload_n 0, 1, 0, 0, 0, .null, []), (1, .iconst 0, 1, 0, 0, 0, .int 0, []), (2, .invokevirtual 181, 3, 120, 1, 760, .ref 8, []), (5, .aload_n 0, 1, 0, 0, 0, .null, []), (6, .iconst 1, 1, 0, 0, 0, .int 1, []), (7, .invokevirtual 181, 3, 120, 1, 760, .ref 8, []), (10, .iadd, 1, 0, 0, 0, .null, []), (11, .ireturn, 1, 0, 0, 0, .null, [])]]
def ia_m_X8_standing : ia_M := ("OffsetBookModel", ⟨"OffsetBookModel", "standing", "()I"⟩, prog_10_method_26_code, 1, (some .int), 0, ia_k_X8_standing, (759, 82, 758, 52), (1, 23))
def ia_k_X8_turns : List (List ia_E) := [[(0, .aload_n 0, 1, 0, 0, 0, .null, []), (1, .iload_n 1, 1, 0, 0, 0, .null, []), (2, .invokevirtual 184, 3, 118, 1, 754, .ref 8, []), (5, .ifCond .eq 13, 3, 18, 0, 0, .null, []), (8, .aload_n 0, 1, 0, 0, 0, .null, []), (9, .getfield 32, 3, 8, 14, 626, .null, []), (12, .iload_n 1, 1, 0, 0, 0, .null, []), (13, .baload, 1, 0, 0, 0, .null, []), (14, .iload_n 2, 1, 0, 0, 0, .null, []), (15, .if_icmp .ne 5, 3, 20, 0, 0, .null, [])],
  [(18, .iconst (-1), 1, 0, 0, 0, .int (-1), []), (19, .ireturn, 1, 0, 0, 0, .null, []), (20, .aload_n 0, 1, 0, 0, 0, .null, []), (21, .invokevirtual 169, 3, 127, 0, 734, .ref 8, []), (24, .aload_n 0, 1, 0, 0, 0, .null, []), (25, .getfield 32, 3, 8, 14, 626, .null, []), (28, .iload_n 1, 1, 0, 0, 0, .null, []), (29, .iload_n 2, 1, 0, 0, 0, .null, []), (30, .bastore, 1, 0, 0, 0, .null, []), (31, .aload_n 0, 1, 0, 0, 0, .null, [])],
  [(32, .invokevirtual 88, 3, 117, 0, 602, .ref 8, []), (35, .aload_n 0, 1, 0, 0, 0, .null, []), (36, .invokevirtual 187, 3, 121, 0, 757, .ref 8, []), (39, .ireturn, 1, 0, 0, 0, .null, [])]]
def ia_m_X8_turns : ia_M := ("OffsetBookModel", ⟨"OffsetBookModel", "turns", "(IZ)I"⟩, prog_10_method_27_code, 3, (some .int), 2, ia_k_X8_turns, (753, 82, 752, 50), (3, 64))
def ia_k_X8_retract : List (List ia_E) := [[(0, .aload_n 0, 1, 0, 0, 0, .null, []), (1, .iload_n 1, 1, 0, 0, 0, .null, []), (2, .iconst 1, 1, 0, 0, 0, .int 1, []), (3, .invokevirtual 190, 3, 122, 2, 751, .ref 8, []), (6, .ireturn, 1, 0, 0, 0, .null, [])]]
def ia_m_X8_retract : ia_M := ("OffsetBookModel", ⟨"OffsetBookModel", "retract", "(I)I"⟩, prog_10_method_28_code, 2, (some .int), 1, ia_k_X8_retract, (750, 82, 748, 749), (4, 86))
def ia_k_X8_restore : List (List ia_E) := [[(0, .aload_n 0, 1, 0, 0, 0, .null, []), (1, .iload_n 1, 1, 0, 0, 0, .null, []), (2, .iconst 0, 1, 0, 0, 0, .int 0, []), (3, .invokevirtual 190, 3, 122, 2, 751, .ref 8, []), (6, .ireturn, 1, 0, 0, 0, .null, [])]]
def ia_m_X8_restore : ia_M := ("OffsetBookModel", ⟨"OffsetBookModel", "restore", "(I)I"⟩, prog_10_method_29_code, 2, (some .int), 1, ia_k_X8_restore, (766, 82, 764, 765), (4, 86))
def ia_k_X8_keeps : List (List ia_E) := [[(0, .sipush 649, 3, 0, 0, 0, .int 649, []), (3, .iload_n 1, 1, 0, 0, 0, .null, []), (4, .imul, 1, 0, 0, 0, .null, []), (5, .istore_n 2, 1, 0, 0, 0, .null, []), (6, .aload_n 0, 1, 0, 0, 0, .null, []), (7, .getfield 45, 3, 8, 19, 631, .null, []), (10, .iload_n 2, 1, 0, 0, 0, .null, []), (11, .iconst 0, 1, 0, 0, 0, .int 0, []), (12, .iadd, 1, 0, 0, 0, .null, []), (13, .aload_n 0, 1, 0, 0, 0, .null, []), (14, .getfield 84, 3, 8, 4, 616, .null, [])],
  [(17, .iastore, 1, 0, 0, 0, .null, []), (18, .aload_n 0, 1, 0, 0, 0, .null, []), (19, .getfield 45, 3, 8, 19, 631, .null, []), (22, .iload_n 2, 1, 0, 0, 0, .null, []), (23, .iconst 1, 1, 0, 0, 0, .int 1, []), (24, .iadd, 1, 0, 0, 0, .null, []), (25, .aload_n 0, 1, 0, 0, 0, .null, []), (26, .getfield 159, 3, 8, 10, 622, .null, []), (29, .iastore, 1, 0, 0, 0, .null, []), (30, .iconst 0, 1, 0, 0, 0, .int 0, []), (31, .istore_n 3, 1, 0, 0, 0, .null, [])],
  [(32, .iload_n 3, 1, 0, 0, 0, .null, []), (33, .bipush 7, 2, 0, 0, 0, .int 7, []), (35, .aload_n 0, 1, 0, 0, 0, .null, []), (36, .getfield 84, 3, 8, 4, 616, .null, []), (39, .imul, 1, 0, 0, 0, .null, []), (40, .if_icmp .ge 25, 3, 65, 0, 0, .null, []), (43, .aload_n 0, 1, 0, 0, 0, .null, []), (44, .getfield 45, 3, 8, 19, 631, .null, []), (47, .iload_n 2, 1, 0, 0, 0, .null, [])],
  [(48, .iconst 2, 1, 0, 0, 0, .int 2, []), (49, .iadd, 1, 0, 0, 0, .null, []), (50, .iload_n 3, 1, 0, 0, 0, .null, []), (51, .iadd, 1, 0, 0, 0, .null, []), (52, .aload_n 0, 1, 0, 0, 0, .null, []), (53, .getfield 15, 3, 8, 5, 617, .null, []), (56, .iload_n 3, 1, 0, 0, 0, .null, []), (57, .iaload, 1, 0, 0, 0, .null, []), (58, .iastore, 1, 0, 0, 0, .null, []), (59, .iinc 3 1, 3, 0, 0, 0, .int 1, []), (62, .goto (-30), 3, 32, 0, 0, .null, [])],
  [(65, .iconst 0, 1, 0, 0, 0, .int 0, []), (66, .istore_n 3, 1, 0, 0, 0, .null, []), (67, .iload_n 3, 1, 0, 0, 0, .null, []), (68, .aload_n 0, 1, 0, 0, 0, .null, []), (69, .getfield 159, 3, 8, 10, 622, .null, []), (72, .if_icmp .ge 88, 3, 160, 0, 0, .null, []), (75, .aload_n 0, 1, 0, 0, 0, .null, []), (76, .getfield 45, 3, 8, 19, 631, .null, []), (79, .iload_n 2, 1, 0, 0, 0, .null, [])],
  [(80, .sipush 289, 3, 0, 0, 0, .int 289, []), (83, .iadd, 1, 0, 0, 0, .null, []), (84, .iload_n 3, 1, 0, 0, 0, .null, []), (85, .iadd, 1, 0, 0, 0, .null, []), (86, .aload_n 0, 1, 0, 0, 0, .null, []), (87, .getfield 22, 3, 8, 11, 623, .null, []), (90, .iload_n 3, 1, 0, 0, 0, .null, []), (91, .iaload, 1, 0, 0, 0, .null, []), (92, .iastore, 1, 0, 0, 0, .null, []), (93, .aload_n 0, 1, 0, 0, 0, .null, []), (94, .getfield 45, 3, 8, 19, 631, .null, [])],
  [(97, .iload_n 2, 1, 0, 0, 0, .null, []), (98, .sipush 409, 3, 0, 0, 0, .int 409, []), (101, .iadd, 1, 0, 0, 0, .null, []), (102, .iload_n 3, 1, 0, 0, 0, .null, []), (103, .iadd, 1, 0, 0, 0, .null, []), (104, .aload_n 0, 1, 0, 0, 0, .null, []), (105, .getfield 25, 3, 8, 12, 624, .null, []), (108, .iload_n 3, 1, 0, 0, 0, .null, []), (109, .iaload, 1, 0, 0, 0, .null, []), (110, .iastore, 1, 0, 0, 0, .null, []), (111, .aload_n 0, 1, 0, 0, 0, .null, [])],
  [(112, .getfield 45, 3, 8, 19, 631, .null, []), (115, .iload_n 2, 1, 0, 0, 0, .null, []), (116, .sipush 529, 3, 0, 0, 0, .int 529, []), (119, .iadd, 1, 0, 0, 0, .null, []), (120, .iload_n 3, 1, 0, 0, 0, .null, []), (121, .iadd, 1, 0, 0, 0, .null, []), (122, .aload_n 0, 1, 0, 0, 0, .null, []), (123, .getfield 32, 3, 8, 14, 626, .null, []), (126, .iload_n 3, 1, 0, 0, 0, .null, []), (127, .baload, 1, 0, 0, 0, .null, [])],
  [(128, .ifCond .eq 7, 3, 135, 0, 0, .null, []), (131, .iconst 1, 1, 0, 0, 0, .int 1, []), (132, .goto 4, 3, 136, 0, 0, .null, []), (135, .iconst 0, 1, 0, 0, 0, .int 0, []), (136, .iastore, 1, 0, 0, 0, .null, []), (137, .aload_n 0, 1, 0, 0, 0, .null, []), (138, .getfield 48, 3, 8, 20, 632, .null, []), (141, .bipush 120, 2, 0, 0, 0, .int 120, []), (143, .iload_n 1, 1, 0, 0, 0, .null, [])],
  [(144, .imul, 1, 0, 0, 0, .null, []), (145, .iload_n 3, 1, 0, 0, 0, .null, []), (146, .iadd, 1, 0, 0, 0, .null, []), (147, .aload_n 0, 1, 0, 0, 0, .null, []), (148, .getfield 28, 3, 8, 13, 625, .null, []), (151, .iload_n 3, 1, 0, 0, 0, .null, []), (152, .laload, 1, 0, 0, 0, .null, []), (153, .lastore, 1, 0, 0, 0, .null, []), (154, .iinc 3 1, 3, 0, 0, 0, .int 1, []), (157, .goto (-90), 3, 67, 0, 0, .null, [])],
  [(160, .return_, 1, 0, 0, 0, .null, [])]]
def ia_m_X8_keeps : ia_M := ("OffsetBookModel", ⟨"OffsetBookModel", "keeps", "(I)V"⟩, prog_10_method_30_code, 4, none, 1, ia_k_X8_keeps, (742, 82, 741, 49), (0, 0))
def ia_k_X8_goesBackTo : List (List ia_E) := [[(0, .sipush 649, 3, 0, 0, 0, .int 649, []), (3, .iload_n 1, 1, 0, 0, 0, .null, []), (4, .imul, 1, 0, 0, 0, .null, []), (5, .istore_n 2, 1, 0, 0, 0, .null, []), (6, .aload_n 0, 1, 0, 0, 0, .null, []), (7, .aload_n 0, 1, 0, 0, 0, .null, []), (8, .getfield 45, 3, 8, 19, 631, .null, []), (11, .iload_n 2, 1, 0, 0, 0, .null, []), (12, .iconst 0, 1, 0, 0, 0, .int 0, []), (13, .iadd, 1, 0, 0, 0, .null, []), (14, .iaload, 1, 0, 0, 0, .null, []), (15, .putfield 84, 3, 8, 4, 616, .null, [])],
  [(18, .aload_n 0, 1, 0, 0, 0, .null, []), (19, .aload_n 0, 1, 0, 0, 0, .null, []), (20, .getfield 45, 3, 8, 19, 631, .null, []), (23, .iload_n 2, 1, 0, 0, 0, .null, []), (24, .iconst 1, 1, 0, 0, 0, .int 1, []), (25, .iadd, 1, 0, 0, 0, .null, []), (26, .iaload, 1, 0, 0, 0, .null, []), (27, .putfield 159, 3, 8, 10, 622, .null, []), (30, .iconst 0, 1, 0, 0, 0, .int 0, []), (31, .istore_n 3, 1, 0, 0, 0, .null, [])],
  [(32, .iload_n 3, 1, 0, 0, 0, .null, []), (33, .bipush 7, 2, 0, 0, 0, .int 7, []), (35, .aload_n 0, 1, 0, 0, 0, .null, []), (36, .getfield 84, 3, 8, 4, 616, .null, []), (39, .imul, 1, 0, 0, 0, .null, []), (40, .if_icmp .ge 25, 3, 65, 0, 0, .null, []), (43, .aload_n 0, 1, 0, 0, 0, .null, []), (44, .getfield 15, 3, 8, 5, 617, .null, []), (47, .iload_n 3, 1, 0, 0, 0, .null, [])],
  [(48, .aload_n 0, 1, 0, 0, 0, .null, []), (49, .getfield 45, 3, 8, 19, 631, .null, []), (52, .iload_n 2, 1, 0, 0, 0, .null, []), (53, .iconst 2, 1, 0, 0, 0, .int 2, []), (54, .iadd, 1, 0, 0, 0, .null, []), (55, .iload_n 3, 1, 0, 0, 0, .null, []), (56, .iadd, 1, 0, 0, 0, .null, []), (57, .iaload, 1, 0, 0, 0, .null, []), (58, .iastore, 1, 0, 0, 0, .null, []), (59, .iinc 3 1, 3, 0, 0, 0, .int 1, []), (62, .goto (-30), 3, 32, 0, 0, .null, [])],
  [(65, .iconst 0, 1, 0, 0, 0, .int 0, []), (66, .istore_n 3, 1, 0, 0, 0, .null, []), (67, .iload_n 3, 1, 0, 0, 0, .null, []), (68, .aload_n 0, 1, 0, 0, 0, .null, []), (69, .getfield 159, 3, 8, 10, 622, .null, []), (72, .if_icmp .ge 89, 3, 161, 0, 0, .null, []), (75, .aload_n 0, 1, 0, 0, 0, .null, []), (76, .getfield 22, 3, 8, 11, 623, .null, []), (79, .iload_n 3, 1, 0, 0, 0, .null, [])],
  [(80, .aload_n 0, 1, 0, 0, 0, .null, []), (81, .getfield 45, 3, 8, 19, 631, .null, []), (84, .iload_n 2, 1, 0, 0, 0, .null, []), (85, .sipush 289, 3, 0, 0, 0, .int 289, []), (88, .iadd, 1, 0, 0, 0, .null, []), (89, .iload_n 3, 1, 0, 0, 0, .null, []), (90, .iadd, 1, 0, 0, 0, .null, []), (91, .iaload, 1, 0, 0, 0, .null, []), (92, .iastore, 1, 0, 0, 0, .null, []), (93, .aload_n 0, 1, 0, 0, 0, .null, []), (94, .getfield 25, 3, 8, 12, 624, .null, [])],
  [(97, .iload_n 3, 1, 0, 0, 0, .null, []), (98, .aload_n 0, 1, 0, 0, 0, .null, []), (99, .getfield 45, 3, 8, 19, 631, .null, []), (102, .iload_n 2, 1, 0, 0, 0, .null, []), (103, .sipush 409, 3, 0, 0, 0, .int 409, []), (106, .iadd, 1, 0, 0, 0, .null, []), (107, .iload_n 3, 1, 0, 0, 0, .null, []), (108, .iadd, 1, 0, 0, 0, .null, []), (109, .iaload, 1, 0, 0, 0, .null, []), (110, .iastore, 1, 0, 0, 0, .null, []), (111, .aload_n 0, 1, 0, 0, 0, .null, [])],
  [(112, .getfield 32, 3, 8, 14, 626, .null, []), (115, .iload_n 3, 1, 0, 0, 0, .null, []), (116, .aload_n 0, 1, 0, 0, 0, .null, []), (117, .getfield 45, 3, 8, 19, 631, .null, []), (120, .iload_n 2, 1, 0, 0, 0, .null, []), (121, .sipush 529, 3, 0, 0, 0, .int 529, []), (124, .iadd, 1, 0, 0, 0, .null, []), (125, .iload_n 3, 1, 0, 0, 0, .null, []), (126, .iadd, 1, 0, 0, 0, .null, []), (127, .iaload, 1, 0, 0, 0, .null, [])],
  [(128, .iconst 1, 1, 0, 0, 0, .int 1, []), (129, .if_icmp .ne 7, 3, 136, 0, 0, .null, []), (132, .iconst 1, 1, 0, 0, 0, .int 1, []), (133, .goto 4, 3, 137, 0, 0, .null, []), (136, .iconst 0, 1, 0, 0, 0, .int 0, []), (137, .bastore, 1, 0, 0, 0, .null, []), (138, .aload_n 0, 1, 0, 0, 0, .null, []), (139, .getfield 28, 3, 8, 13, 625, .null, []), (142, .iload_n 3, 1, 0, 0, 0, .null, []), (143, .aload_n 0, 1, 0, 0, 0, .null, [])],
  [(144, .getfield 48, 3, 8, 20, 632, .null, []), (147, .bipush 120, 2, 0, 0, 0, .int 120, []), (149, .iload_n 1, 1, 0, 0, 0, .null, []), (150, .imul, 1, 0, 0, 0, .null, []), (151, .iload_n 3, 1, 0, 0, 0, .null, []), (152, .iadd, 1, 0, 0, 0, .null, []), (153, .laload, 1, 0, 0, 0, .null, []), (154, .lastore, 1, 0, 0, 0, .null, []), (155, .iinc 3 1, 3, 0, 0, 0, .int 1, []), (158, .goto (-91), 3, 67, 0, 0, .null, [])],
  [(161, .aload_n 0, 1, 0, 0, 0, .null, []), (162, .invokevirtual 88, 3, 117, 0, 602, .ref 8, []), (165, .return_, 1, 0, 0, 0, .null, [])]]
def ia_m_X8_goesBackTo : ia_M := ("OffsetBookModel", ⟨"OffsetBookModel", "goesBackTo", "(I)V"⟩, prog_10_method_31_code, 4, none, 1, ia_k_X8_goesBackTo, (773, 82, 772, 54), (2, 54))
def ia_k_X8_keepsAct : List (List ia_E) := [[(0, .aload_n 0, 1, 0, 0, 0, .null, []), (1, .getfield 194, 3, 8, 22, 634, .null, []), (4, .bipush 20, 2, 0, 0, 0, .int 20, []), (6, .if_icmp .ne 77, 3, 83, 0, 0, .null, []), (9, .sipush 649, 3, 0, 0, 0, .int 649, []), (12, .istore_n 1, 1, 0, 0, 0, .null, []), (13, .iload_n 1, 1, 0, 0, 0, .null, []), (14, .sipush 12980, 3, 0, 0, 0, .int 12980, [])],
  [(17, .if_icmp .ge 25, 3, 42, 0, 0, .null, []), (20, .aload_n 0, 1, 0, 0, 0, .null, []), (21, .getfield 45, 3, 8, 19, 631, .null, []), (24, .iload_n 1, 1, 0, 0, 0, .null, []), (25, .sipush 649, 3, 0, 0, 0, .int 649, []), (28, .isub, 1, 0, 0, 0, .null, []), (29, .aload_n 0, 1, 0, 0, 0, .null, []), (30, .getfield 45, 3, 8, 19, 631, .null, [])],
  [(33, .iload_n 1, 1, 0, 0, 0, .null, []), (34, .iaload, 1, 0, 0, 0, .null, []), (35, .iastore, 1, 0, 0, 0, .null, []), (36, .iinc 1 1, 3, 0, 0, 0, .int 1, []), (39, .goto (-26), 3, 13, 0, 0, .null, []), (42, .bipush 120, 2, 0, 0, 0, .int 120, []), (44, .istore_n 1, 1, 0, 0, 0, .null, []), (45, .iload_n 1, 1, 0, 0, 0, .null, []), (46, .sipush 2400, 3, 0, 0, 0, .int 2400, [])],
  [(49, .if_icmp .ge 24, 3, 73, 0, 0, .null, []), (52, .aload_n 0, 1, 0, 0, 0, .null, []), (53, .getfield 48, 3, 8, 20, 632, .null, []), (56, .iload_n 1, 1, 0, 0, 0, .null, []), (57, .bipush 120, 2, 0, 0, 0, .int 120, []), (59, .isub, 1, 0, 0, 0, .null, []), (60, .aload_n 0, 1, 0, 0, 0, .null, []), (61, .getfield 48, 3, 8, 20, 632, .null, [])],
  [(64, .iload_n 1, 1, 0, 0, 0, .null, []), (65, .laload, 1, 0, 0, 0, .null, []), (66, .lastore, 1, 0, 0, 0, .null, []), (67, .iinc 1 1, 3, 0, 0, 0, .int 1, []), (70, .goto (-25), 3, 45, 0, 0, .null, []), (73, .aload_n 0, 1, 0, 0, 0, .null, []), (74, .dup, 1, 0, 0, 0, .null, []), (75, .getfield 194, 3, 8, 22, 634, .null, []), (78, .iconst 1, 1, 0, 0, 0, .int 1, []), (79, .isub, 1, 0, 0, 0, .null, [])],
  [(80, .putfield 194, 3, 8, 22, 634, .null, []), (83, .aload_n 0, 1, 0, 0, 0, .null, []), (84, .invokevirtual 197, 3, 128, 0, 737, .ref 8, []), (87, .aload_n 0, 1, 0, 0, 0, .null, []), (88, .dup, 1, 0, 0, 0, .null, []), (89, .getfield 194, 3, 8, 22, 634, .null, []), (92, .iconst 1, 1, 0, 0, 0, .int 1, []), (93, .iadd, 1, 0, 0, 0, .null, []), (94, .putfield 194, 3, 8, 22, 634, .null, [])],
  [(97, .return_, 1, 0, 0, 0, .null, [])]]
def ia_m_X8_keepsAct : ia_M := ("OffsetBookModel", ⟨"OffsetBookModel", "keepsAct", "()V"⟩, prog_10_method_32_code, 2, none, 0, ia_k_X8_keepsAct, (736, 82, 735, 47), (2, 43))
def ia_k_X8_keepsTold : List (List ia_E) := [[(0, .aload_n 0, 1, 0, 0, 0, .null, []), (1, .aload_n 0, 1, 0, 0, 0, .null, []), (2, .getfield 194, 3, 8, 22, 634, .null, []), (5, .invokevirtual 200, 3, 125, 1, 740, .ref 8, []), (8, .return_, 1, 0, 0, 0, .null, [])]]
def ia_m_X8_keepsTold : ia_M := ("OffsetBookModel", ⟨"OffsetBookModel", "keepsTold", "()V"⟩, prog_10_method_33_code, 1, none, 0, ia_k_X8_keepsTold, (739, 82, 738, 48), (1, 23))
def ia_k_X8_undo : List (List ia_E) := [[(0, .aload_n 0, 1, 0, 0, 0, .null, []), (1, .getfield 194, 3, 8, 22, 634, .null, []), (4, .ifCond .ne 5, 3, 9, 0, 0, .null, []), (7, .iconst (-1), 1, 0, 0, 0, .int (-1), []), (8, .ireturn, 1, 0, 0, 0, .null, []), (9, .aload_n 0, 1, 0, 0, 0, .null, []), (10, .dup, 1, 0, 0, 0, .null, []), (11, .getfield 194, 3, 8, 22, 634, .null, []), (14, .iconst 1, 1, 0, 0, 0, .int 1, []), (15, .isub, 1, 0, 0, 0, .null, [])],
  [(16, .putfield 194, 3, 8, 22, 634, .null, []), (19, .aload_n 0, 1, 0, 0, 0, .null, []), (20, .aload_n 0, 1, 0, 0, 0, .null, []), (21, .getfield 194, 3, 8, 22, 634, .null, []), (24, .invokevirtual 203, 3, 126, 1, 771, .ref 8, []), (27, .aload_n 0, 1, 0, 0, 0, .null, []), (28, .getfield 194, 3, 8, 22, 634, .null, []), (31, .ireturn, 1, 0, 0, 0, .null, [])]]
def ia_m_X8_undo : ia_M := ("OffsetBookModel", ⟨"OffsetBookModel", "undo", "()I"⟩, prog_10_method_34_code, 1, (some .int), 0, ia_k_X8_undo, (770, 82, 768, 769), (3, 77))
def ia_k_X8_image : List (List ia_E) := [[(0, .iload_n 1, 1, 0, 0, 0, .null, []), (1, .i2l, 1, 0, 0, 0, .null, []), (2, .lconst 0, 1, 0, 0, 0, .long 0, []), (3, .lconst 1, 1, 0, 0, 0, .long 1, []), (4, .invokestatic 94, 3, 103, 3, 686, .null, []), (7, .ifCond .ne 5, 3, 12, 0, 0, .null, []), (10, .iconst (-1), 1, 0, 0, 0, .int (-1), []), (11, .ireturn, 1, 0, 0, 0, .null, []), (12, .aload_n 0, 1, 0, 0, 0, .null, []), (13, .bipush 20, 2, 0, 0, 0, .int 20, []), (15, .iload_n 1, 1, 0, 0, 0, .null, [])],
  [(16, .iadd, 1, 0, 0, 0, .null, []), (17, .invokevirtual 200, 3, 125, 1, 740, .ref 8, []), (20, .aload_n 0, 1, 0, 0, 0, .null, []), (21, .getfield 51, 3, 8, 21, 633, .null, []), (24, .iload_n 1, 1, 0, 0, 0, .null, []), (25, .iconst 1, 1, 0, 0, 0, .int 1, []), (26, .bastore, 1, 0, 0, 0, .null, []), (27, .aload_n 0, 1, 0, 0, 0, .null, []), (28, .getfield 159, 3, 8, 10, 622, .null, []), (31, .ireturn, 1, 0, 0, 0, .null, [])]]
def ia_m_X8_image : ia_M := ("OffsetBookModel", ⟨"OffsetBookModel", "image", "(I)I"⟩, prog_10_method_35_code, 2, (some .int), 1, ia_k_X8_image, (777, 82, 775, 776), (1, 25))
def ia_k_X8_back : List (List ia_E) := [[(0, .iload_n 1, 1, 0, 0, 0, .null, []), (1, .i2l, 1, 0, 0, 0, .null, []), (2, .lconst 0, 1, 0, 0, 0, .long 0, []), (3, .lconst 1, 1, 0, 0, 0, .long 1, []), (4, .invokestatic 94, 3, 103, 3, 686, .null, []), (7, .ifCond .eq 12, 3, 19, 0, 0, .null, []), (10, .aload_n 0, 1, 0, 0, 0, .null, []), (11, .getfield 51, 3, 8, 21, 633, .null, []), (14, .iload_n 1, 1, 0, 0, 0, .null, []), (15, .baload, 1, 0, 0, 0, .null, [])],
  [(16, .ifCond .ne 5, 3, 21, 0, 0, .null, []), (19, .iconst (-1), 1, 0, 0, 0, .int (-1), []), (20, .ireturn, 1, 0, 0, 0, .null, []), (21, .aload_n 0, 1, 0, 0, 0, .null, []), (22, .bipush 20, 2, 0, 0, 0, .int 20, []), (24, .iload_n 1, 1, 0, 0, 0, .null, []), (25, .iadd, 1, 0, 0, 0, .null, []), (26, .invokevirtual 203, 3, 126, 1, 771, .ref 8, []), (29, .aload_n 0, 1, 0, 0, 0, .null, []), (30, .iconst 0, 1, 0, 0, 0, .int 0, []), (31, .putfield 194, 3, 8, 22, 634, .null, [])],
  [(34, .aload_n 0, 1, 0, 0, 0, .null, []), (35, .getfield 159, 3, 8, 10, 622, .null, []), (38, .ireturn, 1, 0, 0, 0, .null, [])]]
def ia_m_X8_back : ia_M := ("OffsetBookModel", ⟨"OffsetBookModel", "back", "(I)I"⟩, prog_10_method_36_code, 2, (some .int), 1, ia_k_X8_back, (781, 82, 779, 780), (3, 77))
def ia_k_X8_reaches : List (List ia_E) := [[(0, .iconst 0, 1, 0, 0, 0, .int 0, []), (1, .istore_n 3, 1, 0, 0, 0, .null, []), (2, .iload_n 3, 1, 0, 0, 0, .null, []), (3, .aload_n 0, 1, 0, 0, 0, .null, []), (4, .getfield 84, 3, 8, 4, 616, .null, []), (7, .if_icmp .ge 16, 3, 23, 0, 0, .null, []), (10, .aload_n 0, 1, 0, 0, 0, .null, []), (11, .getfield 54, 3, 8, 23, 635, .null, []), (14, .iload_n 3, 1, 0, 0, 0, .null, []), (15, .iconst 0, 1, 0, 0, 0, .int 0, [])],
  [(16, .bastore, 1, 0, 0, 0, .null, []), (17, .iinc 3 1, 3, 0, 0, 0, .int 1, []), (20, .goto (-18), 3, 2, 0, 0, .null, []), (23, .aload_n 0, 1, 0, 0, 0, .null, []), (24, .getfield 54, 3, 8, 23, 635, .null, []), (27, .iload_n 1, 1, 0, 0, 0, .null, []), (28, .iconst 1, 1, 0, 0, 0, .int 1, []), (29, .bastore, 1, 0, 0, 0, .null, []), (30, .aload_n 0, 1, 0, 0, 0, .null, []), (31, .getfield 57, 3, 8, 24, 636, .null, [])],
  [(34, .iconst 0, 1, 0, 0, 0, .int 0, []), (35, .iload_n 1, 1, 0, 0, 0, .null, []), (36, .iastore, 1, 0, 0, 0, .null, []), (37, .iconst 1, 1, 0, 0, 0, .int 1, []), (38, .istore_n 3, 1, 0, 0, 0, .null, []), (39, .iconst 0, 1, 0, 0, 0, .int 0, []), (40, .istore 4, 2, 0, 0, 0, .null, []), (42, .iload 4, 2, 0, 0, 0, .null, []), (44, .iload_n 3, 1, 0, 0, 0, .null, []), (45, .if_icmp .ge 147, 3, 192, 0, 0, .null, [])],
  [(48, .iconst 0, 1, 0, 0, 0, .int 0, []), (49, .istore 5, 2, 0, 0, 0, .null, []), (51, .iload 5, 2, 0, 0, 0, .null, []), (53, .aload_n 0, 1, 0, 0, 0, .null, []), (54, .getfield 159, 3, 8, 10, 622, .null, []), (57, .if_icmp .ge 129, 3, 186, 0, 0, .null, []), (60, .iload 5, 2, 0, 0, 0, .null, []), (62, .iload_n 2, 1, 0, 0, 0, .null, []), (63, .if_icmp .eq 117, 3, 180, 0, 0, .null, [])],
  [(66, .aload_n 0, 1, 0, 0, 0, .null, []), (67, .iload 5, 2, 0, 0, 0, .null, []), (69, .invokevirtual 206, 3, 119, 1, 790, .ref 8, []), (72, .ifCond .eq 108, 3, 180, 0, 0, .null, []), (75, .aload_n 0, 1, 0, 0, 0, .null, []), (76, .getfield 22, 3, 8, 11, 623, .null, []), (79, .iload 5, 2, 0, 0, 0, .null, [])],
  [(81, .iaload, 1, 0, 0, 0, .null, []), (82, .aload_n 0, 1, 0, 0, 0, .null, []), (83, .getfield 57, 3, 8, 24, 636, .null, []), (86, .iload 4, 2, 0, 0, 0, .null, []), (88, .iaload, 1, 0, 0, 0, .null, []), (89, .if_icmp .eq 23, 3, 112, 0, 0, .null, []), (92, .aload_n 0, 1, 0, 0, 0, .null, []), (93, .getfield 25, 3, 8, 12, 624, .null, [])],
  [(96, .iload 5, 2, 0, 0, 0, .null, []), (98, .iaload, 1, 0, 0, 0, .null, []), (99, .aload_n 0, 1, 0, 0, 0, .null, []), (100, .getfield 57, 3, 8, 24, 636, .null, []), (103, .iload 4, 2, 0, 0, 0, .null, []), (105, .iaload, 1, 0, 0, 0, .null, []), (106, .if_icmp .eq 6, 3, 112, 0, 0, .null, []), (109, .goto 71, 3, 180, 0, 0, .null, [])],
  [(112, .aload_n 0, 1, 0, 0, 0, .null, []), (113, .getfield 22, 3, 8, 11, 623, .null, []), (116, .iload 5, 2, 0, 0, 0, .null, []), (118, .iaload, 1, 0, 0, 0, .null, []), (119, .aload_n 0, 1, 0, 0, 0, .null, []), (120, .getfield 57, 3, 8, 24, 636, .null, []), (123, .iload 4, 2, 0, 0, 0, .null, []), (125, .iaload, 1, 0, 0, 0, .null, []), (126, .if_icmp .ne 13, 3, 139, 0, 0, .null, [])],
  [(129, .aload_n 0, 1, 0, 0, 0, .null, []), (130, .getfield 25, 3, 8, 12, 624, .null, []), (133, .iload 5, 2, 0, 0, 0, .null, []), (135, .iaload, 1, 0, 0, 0, .null, []), (136, .goto 10, 3, 146, 0, 0, .null, []), (139, .aload_n 0, 1, 0, 0, 0, .null, []), (140, .getfield 22, 3, 8, 11, 623, .null, []), (143, .iload 5, 2, 0, 0, 0, .null, [])],
  [(145, .iaload, 1, 0, 0, 0, .null, []), (146, .istore 6, 2, 0, 0, 0, .null, []), (148, .aload_n 0, 1, 0, 0, 0, .null, []), (149, .getfield 54, 3, 8, 23, 635, .null, []), (152, .iload 6, 2, 0, 0, 0, .null, []), (154, .baload, 1, 0, 0, 0, .null, []), (155, .ifCond .eq 6, 3, 161, 0, 0, .null, []), (158, .goto 22, 3, 180, 0, 0, .null, [])],
  [(161, .aload_n 0, 1, 0, 0, 0, .null, []), (162, .getfield 54, 3, 8, 23, 635, .null, []), (165, .iload 6, 2, 0, 0, 0, .null, []), (167, .iconst 1, 1, 0, 0, 0, .int 1, []), (168, .bastore, 1, 0, 0, 0, .null, []), (169, .aload_n 0, 1, 0, 0, 0, .null, []), (170, .getfield 57, 3, 8, 24, 636, .null, []), (173, .iload_n 3, 1, 0, 0, 0, .null, []), (174, .iload 6, 2, 0, 0, 0, .null, [])],
  [(176, .iastore, 1, 0, 0, 0, .null, []), (177, .iinc 3 1, 3, 0, 0, 0, .int 1, []), (180, .iinc 5 1, 3, 0, 0, 0, .int 1, []), (183, .goto (-132), 3, 51, 0, 0, .null, []), (186, .iinc 4 1, 3, 0, 0, 0, .int 1, []), (189, .goto (-147), 3, 42, 0, 0, .null, [])],
  [(192, .iload_n 3, 1, 0, 0, 0, .null, []), (193, .ireturn, 1, 0, 0, 0, .null, [])]]
def ia_m_X8_reaches : ia_M := ("OffsetBookModel", ⟨"OffsetBookModel", "reaches", "(II)I"⟩, prog_10_method_37_code, 7, (some .int), 2, ia_k_X8_reaches, (795, 82, 794, 57), (1, 21))
def ia_k_X8_sizeOf : List (List ia_E) := [[(0, .iconst 0, 1, 0, 0, 0, .int 0, []), (1, .istore_n 2, 1, 0, 0, 0, .null, []), (2, .iconst 0, 1, 0, 0, 0, .int 0, []), (3, .istore_n 3, 1, 0, 0, 0, .null, []), (4, .iload_n 3, 1, 0, 0, 0, .null, []), (5, .aload_n 0, 1, 0, 0, 0, .null, []), (6, .getfield 84, 3, 8, 4, 616, .null, []), (9, .if_icmp .ge 32, 3, 41, 0, 0, .null, []), (12, .iload_n 2, 1, 0, 0, 0, .null, []), (13, .aload_n 0, 1, 0, 0, 0, .null, []), (14, .getfield 36, 3, 8, 16, 628, .null, [])],
  [(17, .iload_n 3, 1, 0, 0, 0, .null, []), (18, .iaload, 1, 0, 0, 0, .null, []), (19, .aload_n 0, 1, 0, 0, 0, .null, []), (20, .getfield 36, 3, 8, 16, 628, .null, []), (23, .iload_n 1, 1, 0, 0, 0, .null, []), (24, .iaload, 1, 0, 0, 0, .null, []), (25, .if_icmp .ne 7, 3, 32, 0, 0, .null, []), (28, .iconst 1, 1, 0, 0, 0, .int 1, []), (29, .goto 4, 3, 33, 0, 0, .null, [])],
  [(32, .iconst 0, 1, 0, 0, 0, .int 0, []), (33, .iadd, 1, 0, 0, 0, .null, []), (34, .istore_n 2, 1, 0, 0, 0, .null, []), (35, .iinc 3 1, 3, 0, 0, 0, .int 1, []), (38, .goto (-34), 3, 4, 0, 0, .null, []), (41, .iload_n 2, 1, 0, 0, 0, .null, []), (42, .ireturn, 1, 0, 0, 0, .null, [])]]
def ia_m_X8_sizeOf : ia_M := ("OffsetBookModel", ⟨"OffsetBookModel", "sizeOf", "(I)I"⟩, prog_10_method_38_code, 4, (some .int), 1, ia_k_X8_sizeOf, (798, 82, 797, 58), (0, 0))
def ia_k_X8_rely : List (List ia_E) := [[(0, .aload_n 0, 1, 0, 0, 0, .null, []), (1, .iload_n 1, 1, 0, 0, 0, .null, []), (2, .invokevirtual 206, 3, 119, 1, 790, .ref 8, []), (5, .ifCond .ne 5, 3, 10, 0, 0, .null, []), (8, .iconst 0, 1, 0, 0, 0, .int 0, []), (9, .ireturn, 1, 0, 0, 0, .null, []), (10, .aload_n 0, 1, 0, 0, 0, .null, []), (11, .aload_n 0, 1, 0, 0, 0, .null, []), (12, .getfield 22, 3, 8, 11, 623, .null, []), (15, .iload_n 1, 1, 0, 0, 0, .null, [])],
  [(16, .iaload, 1, 0, 0, 0, .null, []), (17, .iload_n 1, 1, 0, 0, 0, .null, []), (18, .invokevirtual 209, 3, 132, 2, 793, .ref 8, []), (21, .istore_n 2, 1, 0, 0, 0, .null, []), (22, .aload_n 0, 1, 0, 0, 0, .null, []), (23, .getfield 54, 3, 8, 23, 635, .null, []), (26, .aload_n 0, 1, 0, 0, 0, .null, []), (27, .getfield 25, 3, 8, 12, 624, .null, []), (30, .iload_n 1, 1, 0, 0, 0, .null, []), (31, .iaload, 1, 0, 0, 0, .null, [])],
  [(32, .baload, 1, 0, 0, 0, .null, []), (33, .ifCond .eq 7, 3, 40, 0, 0, .null, []), (36, .iconst 0, 1, 0, 0, 0, .int 0, []), (37, .goto 17, 3, 54, 0, 0, .null, []), (40, .iload_n 2, 1, 0, 0, 0, .null, []), (41, .aload_n 0, 1, 0, 0, 0, .null, []), (42, .aload_n 0, 1, 0, 0, 0, .null, []), (43, .getfield 22, 3, 8, 11, 623, .null, []), (46, .iload_n 1, 1, 0, 0, 0, .null, []), (47, .iaload, 1, 0, 0, 0, .null, [])],
  [(48, .invokevirtual 213, 3, 133, 1, 796, .ref 8, []), (51, .iload_n 2, 1, 0, 0, 0, .null, []), (52, .isub, 1, 0, 0, 0, .null, []), (53, .imul, 1, 0, 0, 0, .null, []), (54, .ireturn, 1, 0, 0, 0, .null, [])]]
def ia_m_X8_rely : ia_M := ("OffsetBookModel", ⟨"OffsetBookModel", "rely", "(I)I"⟩, prog_10_method_39_code, 3, (some .int), 1, ia_k_X8_rely, (789, 82, 788, 55), (2, 47))
def ia_k_X8_statement : List (List ia_E) := [[(0, .aload_n 0, 1, 0, 0, 0, .null, []), (1, .iload_n 1, 1, 0, 0, 0, .null, []), (2, .invokevirtual 184, 3, 118, 1, 754, .ref 8, []), (5, .ifCond .eq 15, 3, 20, 0, 0, .null, []), (8, .iload_n 2, 1, 0, 0, 0, .null, []), (9, .i2l, 1, 0, 0, 0, .null, []), (10, .lconst 0, 1, 0, 0, 0, .long 0, []), (11, .ldc2_w 216, 3, 0, 0, 786, .long 4, []), (14, .invokestatic 94, 3, 103, 3, 686, .null, [])],
  [(17, .ifCond .ne 5, 3, 22, 0, 0, .null, []), (20, .iconst (-1), 1, 0, 0, 0, .int (-1), []), (21, .ireturn, 1, 0, 0, 0, .null, []), (22, .iload_n 2, 1, 0, 0, 0, .null, []), (23, .tableswitch 64 0 3 #[29, 36, 43, 50], 29, 87, 0, 0, .null, [(0, 52), (1, 59), (2, 66), (3, 73)])],
  [],
  [(52, .aload_n 0, 1, 0, 0, 0, .null, []), (53, .getfield 42, 3, 8, 18, 630, .null, []), (56, .iload_n 1, 1, 0, 0, 0, .null, []), (57, .iaload, 1, 0, 0, 0, .null, []), (58, .ireturn, 1, 0, 0, 0, .null, []), (59, .aload_n 0, 1, 0, 0, 0, .null, []), (60, .getfield 22, 3, 8, 11, 623, .null, []), (63, .iload_n 1, 1, 0, 0, 0, .null, [])],
  [(64, .iaload, 1, 0, 0, 0, .null, []), (65, .ireturn, 1, 0, 0, 0, .null, []), (66, .aload_n 0, 1, 0, 0, 0, .null, []), (67, .getfield 25, 3, 8, 12, 624, .null, []), (70, .iload_n 1, 1, 0, 0, 0, .null, []), (71, .iaload, 1, 0, 0, 0, .null, []), (72, .ireturn, 1, 0, 0, 0, .null, []), (73, .aload_n 0, 1, 0, 0, 0, .null, []), (74, .iload_n 1, 1, 0, 0, 0, .null, []), (75, .invokevirtual 218, 3, 134, 1, 787, .ref 8, []), (78, .ifCond .le 7, 3, 85, 0, 0, .null, [])],
  [(81, .iconst 1, 1, 0, 0, 0, .int 1, []), (82, .goto 4, 3, 86, 0, 0, .null, []), (85, .iconst 0, 1, 0, 0, 0, .int 0, []), (86, .ireturn, 1, 0, 0, 0, .null, []), (87, .aload_n 0, 1, 0, 0, 0, .null, []), (88, .iload_n 1, 1, 0, 0, 0, .null, []), (89, .invokevirtual 218, 3, 134, 1, 787, .ref 8, []), (92, .ireturn, 1, 0, 0, 0, .null, [])]]
def ia_m_X8_statement : ia_M := ("OffsetBookModel", ⟨"OffsetBookModel", "statement", "(II)I"⟩, prog_10_method_40_code, 3, (some .int), 2, ia_k_X8_statement, (785, 82, 783, 784), (3, 69))
def ia_k_X8_amount : List (List ia_E) := [[(0, .aload_n 0, 1, 0, 0, 0, .null, []), (1, .iload_n 1, 1, 0, 0, 0, .null, []), (2, .invokevirtual 184, 3, 118, 1, 754, .ref 8, []), (5, .ifCond .eq 12, 3, 17, 0, 0, .null, []), (8, .aload_n 0, 1, 0, 0, 0, .null, []), (9, .getfield 28, 3, 8, 13, 625, .null, []), (12, .iload_n 1, 1, 0, 0, 0, .null, []), (13, .laload, 1, 0, 0, 0, .null, []), (14, .goto 6, 3, 20, 0, 0, .null, [])],
  [(17, .ldc2_w 221, 3, 0, 0, 803, .long (-9223372036854775808), []), (20, .lreturn, 1, 0, 0, 0, .null, [])]]
def ia_m_X8_amount : ia_M := ("OffsetBookModel", ⟨"OffsetBookModel", "amount", "(I)J"⟩, prog_10_method_41_code, 2, (some .long), 1, ia_k_X8_amount, (802, 82, 800, 801), (1, 21))
def ia_k_X8_gauge : List (List ia_E) := [[(0, .aload_n 0, 1, 0, 0, 0, .null, []), (1, .iconst 0, 1, 0, 0, 0, .int 0, []), (2, .putfield 101, 3, 8, 2, 614, .null, []), (5, .aload_n 0, 1, 0, 0, 0, .null, []), (6, .invokevirtual 119, 3, 106, 0, 714, .ref 8, []), (9, .istore_n 1, 1, 0, 0, 0, .null, []), (10, .iload_n 1, 1, 0, 0, 0, .null, []), (11, .ifCond .le 18, 3, 29, 0, 0, .null, []), (14, .aload_n 0, 1, 0, 0, 0, .null, []), (15, .getfield 101, 3, 8, 2, 614, .null, [])],
  [(18, .aload_n 0, 1, 0, 0, 0, .null, []), (19, .getfield 91, 3, 8, 1, 613, .null, []), (22, .if_icmp .ne 7, 3, 29, 0, 0, .null, []), (25, .iconst 1, 1, 0, 0, 0, .int 1, []), (26, .goto 4, 3, 30, 0, 0, .null, []), (29, .iconst 0, 1, 0, 0, 0, .int 0, []), (30, .istore_n 2, 1, 0, 0, 0, .null, []), (31, .aload_n 0, 1, 0, 0, 0, .null, [])],
  [(32, .iconst 0, 1, 0, 0, 0, .int 0, []), (33, .putfield 91, 3, 8, 1, 613, .null, []), (36, .iload_n 2, 1, 0, 0, 0, .null, []), (37, .ifCond .eq 14, 3, 51, 0, 0, .null, []), (40, .aload_n 0, 1, 0, 0, 0, .null, []), (41, .aload_n 0, 1, 0, 0, 0, .null, []), (42, .getfield 84, 3, 8, 4, 616, .null, []), (45, .invokevirtual 129, 3, 108, 1, 717, .ref 8, [])],
  [(48, .goto 4, 3, 52, 0, 0, .null, []), (51, .iconst (-1), 1, 0, 0, 0, .int (-1), []), (52, .ireturn, 1, 0, 0, 0, .null, [])]]
def ia_m_X8_gauge : ia_M := ("OffsetBookModel", ⟨"OffsetBookModel", "gauge", "()I"⟩, prog_10_method_42_code, 3, (some .int), 0, ia_k_X8_gauge, (807, 82, 805, 806), (2, 44))
def ia_k_X8_isGauge : List (List ia_E) := [[(0, .iload_n 1, 1, 0, 0, 0, .null, []), (1, .ifCond .lt 15, 3, 16, 0, 0, .null, []), (4, .iload_n 1, 1, 0, 0, 0, .null, []), (5, .aload_n 0, 1, 0, 0, 0, .null, []), (6, .getfield 84, 3, 8, 4, 616, .null, []), (9, .if_icmp .ge 7, 3, 16, 0, 0, .null, []), (12, .iconst 1, 1, 0, 0, 0, .int 1, []), (13, .goto 4, 3, 17, 0, 0, .null, [])],
  [(16, .iconst 0, 1, 0, 0, 0, .int 0, []), (17, .ireturn, 1, 1, 0, 0, .null, [])]]
def ia_m_X8_isGauge : ia_M := ("OffsetBookModel", ⟨"OffsetBookModel", "isGauge", "(I)Z"⟩, prog_10_method_43_code, 2, (some .boolean), 1, ia_k_X8_isGauge, (814, 82, 813, 59), (0, 0))
def ia_k_X8_letter : List (List ia_E) := [[(0, .aload_n 0, 1, 0, 0, 0, .null, []), (1, .iload_n 1, 1, 0, 0, 0, .null, []), (2, .invokevirtual 223, 3, 138, 1, 812, .ref 8, []), (5, .ifCond .ne 5, 3, 10, 0, 0, .null, []), (8, .iconst (-1), 1, 0, 0, 0, .int (-1), []), (9, .ireturn, 1, 0, 0, 0, .null, []), (10, .iload_n 1, 1, 0, 0, 0, .null, []), (11, .ifCond .ne 7, 3, 18, 0, 0, .null, []), (14, .iconst 0, 1, 0, 0, 0, .int 0, []), (15, .goto 12, 3, 27, 0, 0, .null, [])],
  [(18, .aload_n 0, 1, 0, 0, 0, .null, []), (19, .getfield 15, 3, 8, 5, 617, .null, []), (22, .bipush 7, 2, 0, 0, 0, .int 7, []), (24, .iload_n 1, 1, 0, 0, 0, .null, []), (25, .imul, 1, 0, 0, 0, .null, []), (26, .iaload, 1, 0, 0, 0, .null, []), (27, .istore_n 3, 1, 0, 0, 0, .null, []), (28, .iload_n 2, 1, 0, 0, 0, .null, []), (29, .iconst (-1), 1, 0, 0, 0, .int (-1), []), (30, .if_icmp .ne 5, 3, 35, 0, 0, .null, [])],
  [(33, .iload_n 3, 1, 0, 0, 0, .null, []), (34, .ireturn, 1, 0, 0, 0, .null, []), (35, .iload_n 2, 1, 0, 0, 0, .null, []), (36, .i2l, 1, 0, 0, 0, .null, []), (37, .lconst 0, 1, 0, 0, 0, .long 0, []), (38, .iload_n 3, 1, 0, 0, 0, .null, []), (39, .iconst 1, 1, 0, 0, 0, .int 1, []), (40, .isub, 1, 0, 0, 0, .null, []), (41, .i2l, 1, 0, 0, 0, .null, []), (42, .invokestatic 94, 3, 103, 3, 686, .null, []), (45, .ifCond .eq 19, 3, 64, 0, 0, .null, [])],
  [(48, .aload_n 0, 1, 0, 0, 0, .null, []), (49, .getfield 15, 3, 8, 5, 617, .null, []), (52, .bipush 7, 2, 0, 0, 0, .int 7, []), (54, .iload_n 1, 1, 0, 0, 0, .null, []), (55, .imul, 1, 0, 0, 0, .null, []), (56, .iconst 1, 1, 0, 0, 0, .int 1, []), (57, .iadd, 1, 0, 0, 0, .null, []), (58, .iload_n 2, 1, 0, 0, 0, .null, []), (59, .iadd, 1, 0, 0, 0, .null, []), (60, .iaload, 1, 0, 0, 0, .null, []), (61, .goto 4, 3, 65, 0, 0, .null, [])],
  [(64, .iconst (-1), 1, 0, 0, 0, .int (-1), []), (65, .ireturn, 1, 0, 0, 0, .null, [])]]
def ia_m_X8_letter : ia_M := ("OffsetBookModel", ⟨"OffsetBookModel", "letter", "(II)I"⟩, prog_10_method_44_code, 4, (some .int), 2, ia_k_X8_letter, (811, 82, 809, 810), (1, 25))
def ia_k_X8_difference : List (List ia_E) := [[(0, .aload_n 0, 1, 0, 0, 0, .null, []), (1, .iload_n 1, 1, 0, 0, 0, .null, []), (2, .invokevirtual 223, 3, 138, 1, 812, .ref 8, []), (5, .ifCond .eq 42, 3, 47, 0, 0, .null, []), (8, .aload_n 0, 1, 0, 0, 0, .null, []), (9, .iload_n 2, 1, 0, 0, 0, .null, []), (10, .invokevirtual 223, 3, 138, 1, 812, .ref 8, []), (13, .ifCond .eq 34, 3, 47, 0, 0, .null, [])],
  [(16, .aload_n 0, 1, 0, 0, 0, .null, []), (17, .getfield 36, 3, 8, 16, 628, .null, []), (20, .iload_n 1, 1, 0, 0, 0, .null, []), (21, .iaload, 1, 0, 0, 0, .null, []), (22, .aload_n 0, 1, 0, 0, 0, .null, []), (23, .getfield 36, 3, 8, 16, 628, .null, []), (26, .iload_n 2, 1, 0, 0, 0, .null, []), (27, .iaload, 1, 0, 0, 0, .null, []), (28, .if_icmp .ne 19, 3, 47, 0, 0, .null, []), (31, .aload_n 0, 1, 0, 0, 0, .null, [])],
  [(32, .getfield 39, 3, 8, 17, 629, .null, []), (35, .iload_n 1, 1, 0, 0, 0, .null, []), (36, .laload, 1, 0, 0, 0, .null, []), (37, .aload_n 0, 1, 0, 0, 0, .null, []), (38, .getfield 39, 3, 8, 17, 629, .null, []), (41, .iload_n 2, 1, 0, 0, 0, .null, []), (42, .laload, 1, 0, 0, 0, .null, []), (43, .lsub, 1, 0, 0, 0, .null, []), (44, .goto 6, 3, 50, 0, 0, .null, []), (47, .ldc2_w 221, 3, 0, 0, 803, .long (-9223372036854775808), [])],
  [(50, .lreturn, 1, 0, 0, 0, .null, [])]]
def ia_m_X8_difference : ia_M := ("OffsetBookModel", ⟨"OffsetBookModel", "difference", "(II)J"⟩, prog_10_method_45_code, 3, (some .long), 2, ia_k_X8_difference, (818, 82, 816, 817), (1, 21))
def ia_k_X8_offset : List (List ia_E) := [[(0, .aload_n 0, 1, 0, 0, 0, .null, []), (1, .iload_n 1, 1, 0, 0, 0, .null, []), (2, .invokevirtual 223, 3, 138, 1, 812, .ref 8, []), (5, .ifCond .eq 12, 3, 17, 0, 0, .null, []), (8, .aload_n 0, 1, 0, 0, 0, .null, []), (9, .getfield 39, 3, 8, 17, 629, .null, []), (12, .iload_n 1, 1, 0, 0, 0, .null, []), (13, .laload, 1, 0, 0, 0, .null, []), (14, .goto 6, 3, 20, 0, 0, .null, [])],
  [(17, .ldc2_w 221, 3, 0, 0, 803, .long (-9223372036854775808), []), (20, .lreturn, 1, 0, 0, 0, .null, [])]]
def ia_m_X8_offset : ia_M := ("OffsetBookModel", ⟨"OffsetBookModel", "offset", "(I)J"⟩, prog_10_method_46_code, 2, (some .long), 1, ia_k_X8_offset, (822, 82, 820, 821), (1, 21))
def ia_k_X8_group : List (List ia_E) := [[(0, .aload_n 0, 1, 0, 0, 0, .null, []), (1, .iload_n 1, 1, 0, 0, 0, .null, []), (2, .invokevirtual 223, 3, 138, 1, 812, .ref 8, []), (5, .ifCond .eq 13, 3, 18, 0, 0, .null, []), (8, .iload_n 2, 1, 0, 0, 0, .null, []), (9, .i2l, 1, 0, 0, 0, .null, []), (10, .lconst 0, 1, 0, 0, 0, .long 0, []), (11, .lconst 1, 1, 0, 0, 0, .long 1, []), (12, .invokestatic 94, 3, 103, 3, 686, .null, []), (15, .ifCond .ne 5, 3, 20, 0, 0, .null, [])],
  [(18, .iconst (-1), 1, 0, 0, 0, .int (-1), []), (19, .ireturn, 1, 0, 0, 0, .null, []), (20, .iload_n 2, 1, 0, 0, 0, .null, []), (21, .ifCond .ne 12, 3, 33, 0, 0, .null, []), (24, .aload_n 0, 1, 0, 0, 0, .null, []), (25, .getfield 36, 3, 8, 16, 628, .null, []), (28, .iload_n 1, 1, 0, 0, 0, .null, []), (29, .iaload, 1, 0, 0, 0, .null, []), (30, .goto 8, 3, 38, 0, 0, .null, [])],
  [(33, .aload_n 0, 1, 0, 0, 0, .null, []), (34, .iload_n 1, 1, 0, 0, 0, .null, []), (35, .invokevirtual 213, 3, 133, 1, 796, .ref 8, []), (38, .ireturn, 1, 0, 0, 0, .null, [])]]
def ia_m_X8_group : ia_M := ("OffsetBookModel", ⟨"OffsetBookModel", "group", "(II)I"⟩, prog_10_method_47_code, 3, (some .int), 2, ia_k_X8_group, (826, 82, 824, 825), (1, 25))
def ia_k_X8_isAhead : List (List ia_E) := [[(0, .aload_n 0, 1, 0, 0, 0, .null, []), (1, .getfield 39, 3, 8, 17, 629, .null, []), (4, .iload_n 1, 1, 0, 0, 0, .null, []), (5, .laload, 1, 0, 0, 0, .null, []), (6, .aload_n 0, 1, 0, 0, 0, .null, []), (7, .getfield 39, 3, 8, 17, 629, .null, []), (10, .iload_n 2, 1, 0, 0, 0, .null, []), (11, .laload, 1, 0, 0, 0, .null, []), (12, .lcmp, 1, 0, 0, 0, .null, []), (13, .ifCond .lt 24, 3, 37, 0, 0, .null, [])],
  [(16, .aload_n 0, 1, 0, 0, 0, .null, []), (17, .getfield 39, 3, 8, 17, 629, .null, []), (20, .iload_n 1, 1, 0, 0, 0, .null, []), (21, .laload, 1, 0, 0, 0, .null, []), (22, .aload_n 0, 1, 0, 0, 0, .null, []), (23, .getfield 39, 3, 8, 17, 629, .null, []), (26, .iload_n 2, 1, 0, 0, 0, .null, []), (27, .laload, 1, 0, 0, 0, .null, []), (28, .lcmp, 1, 0, 0, 0, .null, []), (29, .ifCond .ne 12, 3, 41, 0, 0, .null, [])],
  [(32, .iload_n 1, 1, 0, 0, 0, .null, []), (33, .iload_n 2, 1, 0, 0, 0, .null, []), (34, .if_icmp .ge 7, 3, 41, 0, 0, .null, []), (37, .iconst 1, 1, 0, 0, 0, .int 1, []), (38, .goto 4, 3, 42, 0, 0, .null, []), (41, .iconst 0, 1, 0, 0, 0, .int 0, []), (42, .ireturn, 1, 1, 0, 0, .null, [])]]
def ia_m_X8_isAhead : ia_M := ("OffsetBookModel", ⟨"OffsetBookModel", "isAhead", "(II)Z"⟩, prog_10_method_48_code, 3, (some .boolean), 2, ia_k_X8_isAhead, (836, 82, 835, 61), (0, 0))
def ia_k_X8_laysOrder : List (List ia_E) := [[(0, .iconst 0, 1, 0, 0, 0, .int 0, []), (1, .istore_n 2, 1, 0, 0, 0, .null, []), (2, .iconst 0, 1, 0, 0, 0, .int 0, []), (3, .istore_n 3, 1, 0, 0, 0, .null, []), (4, .iload_n 3, 1, 0, 0, 0, .null, []), (5, .aload_n 0, 1, 0, 0, 0, .null, []), (6, .getfield 84, 3, 8, 4, 616, .null, []), (9, .if_icmp .ge 85, 3, 94, 0, 0, .null, []), (12, .aload_n 0, 1, 0, 0, 0, .null, []), (13, .getfield 36, 3, 8, 16, 628, .null, [])],
  [(16, .iload_n 3, 1, 0, 0, 0, .null, []), (17, .iaload, 1, 0, 0, 0, .null, []), (18, .aload_n 0, 1, 0, 0, 0, .null, []), (19, .getfield 36, 3, 8, 16, 628, .null, []), (22, .iload_n 1, 1, 0, 0, 0, .null, []), (23, .iaload, 1, 0, 0, 0, .null, []), (24, .if_icmp .eq 6, 3, 30, 0, 0, .null, []), (27, .goto 61, 3, 88, 0, 0, .null, []), (30, .iload_n 2, 1, 0, 0, 0, .null, []), (31, .istore 4, 2, 0, 0, 0, .null, [])],
  [(33, .iload 4, 2, 0, 0, 0, .null, []), (35, .ifCond .le 42, 3, 77, 0, 0, .null, []), (38, .aload_n 0, 1, 0, 0, 0, .null, []), (39, .iload_n 3, 1, 0, 0, 0, .null, []), (40, .aload_n 0, 1, 0, 0, 0, .null, []), (41, .getfield 60, 3, 8, 25, 637, .null, []), (44, .iload 4, 2, 0, 0, 0, .null, []), (46, .iconst 1, 1, 0, 0, 0, .int 1, []), (47, .isub, 1, 0, 0, 0, .null, [])],
  [(48, .iaload, 1, 0, 0, 0, .null, []), (49, .invokevirtual 226, 3, 143, 2, 834, .ref 8, []), (52, .ifCond .eq 25, 3, 77, 0, 0, .null, []), (55, .aload_n 0, 1, 0, 0, 0, .null, []), (56, .getfield 60, 3, 8, 25, 637, .null, []), (59, .iload 4, 2, 0, 0, 0, .null, []), (61, .aload_n 0, 1, 0, 0, 0, .null, []), (62, .getfield 60, 3, 8, 25, 637, .null, [])],
  [(65, .iload 4, 2, 0, 0, 0, .null, []), (67, .iconst 1, 1, 0, 0, 0, .int 1, []), (68, .isub, 1, 0, 0, 0, .null, []), (69, .iaload, 1, 0, 0, 0, .null, []), (70, .iastore, 1, 0, 0, 0, .null, []), (71, .iinc 4 (-1), 3, 0, 0, 0, .int (-1), []), (74, .goto (-41), 3, 33, 0, 0, .null, []), (77, .aload_n 0, 1, 0, 0, 0, .null, []), (78, .getfield 60, 3, 8, 25, 637, .null, [])],
  [(81, .iload 4, 2, 0, 0, 0, .null, []), (83, .iload_n 3, 1, 0, 0, 0, .null, []), (84, .iastore, 1, 0, 0, 0, .null, []), (85, .iinc 2 1, 3, 0, 0, 0, .int 1, []), (88, .iinc 3 1, 3, 0, 0, 0, .int 1, []), (91, .goto (-87), 3, 4, 0, 0, .null, []), (94, .iload_n 2, 1, 0, 0, 0, .null, []), (95, .ireturn, 1, 0, 0, 0, .null, [])]]
def ia_m_X8_laysOrder : ia_M := ("OffsetBookModel", ⟨"OffsetBookModel", "laysOrder", "(I)I"⟩, prog_10_method_49_code, 5, (some .int), 1, ia_k_X8_laysOrder, (833, 82, 832, 60), (1, 22))
def ia_k_X8_order : List (List ia_E) := [[(0, .aload_n 0, 1, 0, 0, 0, .null, []), (1, .iload_n 1, 1, 0, 0, 0, .null, []), (2, .invokevirtual 223, 3, 138, 1, 812, .ref 8, []), (5, .ifCond .eq 7, 3, 12, 0, 0, .null, []), (8, .iload_n 2, 1, 0, 0, 0, .null, []), (9, .ifCond .ge 5, 3, 14, 0, 0, .null, []), (12, .iconst (-1), 1, 0, 0, 0, .int (-1), []), (13, .ireturn, 1, 0, 0, 0, .null, []), (14, .iload_n 2, 1, 0, 0, 0, .null, []), (15, .aload_n 0, 1, 0, 0, 0, .null, [])],
  [(16, .iload_n 1, 1, 0, 0, 0, .null, []), (17, .invokevirtual 229, 3, 144, 1, 831, .ref 8, []), (20, .if_icmp .ge 12, 3, 32, 0, 0, .null, []), (23, .aload_n 0, 1, 0, 0, 0, .null, []), (24, .getfield 60, 3, 8, 25, 637, .null, []), (27, .iload_n 2, 1, 0, 0, 0, .null, []), (28, .iaload, 1, 0, 0, 0, .null, []), (29, .goto 5, 3, 34, 0, 0, .null, [])],
  [(32, .bipush (-2), 2, 0, 0, 0, .int (-2), []), (34, .ireturn, 1, 0, 0, 0, .null, [])]]
def ia_m_X8_order : ia_M := ("OffsetBookModel", ⟨"OffsetBookModel", "order", "(II)I"⟩, prog_10_method_50_code, 3, (some .int), 2, ia_k_X8_order, (830, 82, 828, 829), (2, 46))
def ia_k_X8_span : List (List ia_E) := [[(0, .aload_n 0, 1, 0, 0, 0, .null, []), (1, .iload_n 1, 1, 0, 0, 0, .null, []), (2, .invokevirtual 223, 3, 138, 1, 812, .ref 8, []), (5, .ifCond .ne 7, 3, 12, 0, 0, .null, []), (8, .ldc2_w 221, 3, 0, 0, 803, .long (-9223372036854775808), []), (11, .lreturn, 1, 0, 0, 0, .null, []), (12, .aload_n 0, 1, 0, 0, 0, .null, []), (13, .iload_n 1, 1, 0, 0, 0, .null, []), (14, .invokevirtual 229, 3, 144, 1, 831, .ref 8, [])],
  [(17, .istore_n 2, 1, 0, 0, 0, .null, []), (18, .aload_n 0, 1, 0, 0, 0, .null, []), (19, .getfield 39, 3, 8, 17, 629, .null, []), (22, .aload_n 0, 1, 0, 0, 0, .null, []), (23, .getfield 60, 3, 8, 25, 637, .null, []), (26, .iload_n 2, 1, 0, 0, 0, .null, []), (27, .iconst 1, 1, 0, 0, 0, .int 1, []), (28, .isub, 1, 0, 0, 0, .null, []), (29, .iaload, 1, 0, 0, 0, .null, []), (30, .laload, 1, 0, 0, 0, .null, []), (31, .aload_n 0, 1, 0, 0, 0, .null, [])],
  [(32, .getfield 39, 3, 8, 17, 629, .null, []), (35, .aload_n 0, 1, 0, 0, 0, .null, []), (36, .getfield 60, 3, 8, 25, 637, .null, []), (39, .iconst 0, 1, 0, 0, 0, .int 0, []), (40, .iaload, 1, 0, 0, 0, .null, []), (41, .laload, 1, 0, 0, 0, .null, []), (42, .lsub, 1, 0, 0, 0, .null, []), (43, .lreturn, 1, 0, 0, 0, .null, [])]]
def ia_m_X8_span : ia_M := ("OffsetBookModel", ⟨"OffsetBookModel", "span", "(I)J"⟩, prog_10_method_51_code, 3, (some .long), 1, ia_k_X8_span, (840, 82, 838, 839), (2, 46))
def ia_k_X8_mean : List (List ia_E) := [[(0, .aload_n 0, 1, 0, 0, 0, .null, []), (1, .iload_n 1, 1, 0, 0, 0, .null, []), (2, .invokevirtual 223, 3, 138, 1, 812, .ref 8, []), (5, .ifCond .ne 7, 3, 12, 0, 0, .null, []), (8, .ldc2_w 221, 3, 0, 0, 803, .long (-9223372036854775808), []), (11, .lreturn, 1, 0, 0, 0, .null, []), (12, .dconst 0, 1, 0, 0, 0, .null, []), (13, .dstore_n 2, 1, 0, 0, 0, .null, []), (14, .iconst 0, 1, 0, 0, 0, .int 0, []), (15, .istore 4, 2, 0, 0, 0, .null, [])],
  [(17, .iload 4, 2, 0, 0, 0, .null, []), (19, .aload_n 0, 1, 0, 0, 0, .null, []), (20, .getfield 84, 3, 8, 4, 616, .null, []), (23, .if_icmp .ge 36, 3, 59, 0, 0, .null, []), (26, .aload_n 0, 1, 0, 0, 0, .null, []), (27, .getfield 36, 3, 8, 16, 628, .null, []), (30, .iload 4, 2, 0, 0, 0, .null, [])],
  [(32, .iaload, 1, 0, 0, 0, .null, []), (33, .aload_n 0, 1, 0, 0, 0, .null, []), (34, .getfield 36, 3, 8, 16, 628, .null, []), (37, .iload_n 1, 1, 0, 0, 0, .null, []), (38, .iaload, 1, 0, 0, 0, .null, []), (39, .if_icmp .ne 14, 3, 53, 0, 0, .null, []), (42, .dload_n 2, 1, 0, 0, 0, .null, []), (43, .aload_n 0, 1, 0, 0, 0, .null, []), (44, .getfield 39, 3, 8, 17, 629, .null, []), (47, .iload 4, 2, 0, 0, 0, .null, [])],
  [(49, .laload, 1, 0, 0, 0, .null, []), (50, .l2d, 1, 0, 0, 0, .null, []), (51, .dadd, 1, 0, 0, 0, .null, []), (52, .dstore_n 2, 1, 0, 0, 0, .null, []), (53, .iinc 4 1, 3, 0, 0, 0, .int 1, []), (56, .goto (-39), 3, 17, 0, 0, .null, []), (59, .dload_n 2, 1, 0, 0, 0, .null, []), (60, .aload_n 0, 1, 0, 0, 0, .null, []), (61, .iload_n 1, 1, 0, 0, 0, .null, []), (62, .invokevirtual 213, 3, 133, 1, 796, .ref 8, [])],
  [(65, .i2d, 1, 0, 0, 0, .null, []), (66, .ddiv, 1, 0, 0, 0, .null, []), (67, .invokestatic 232, 3, 172, 1, 845, .null, []), (70, .lreturn, 1, 0, 0, 0, .null, [])]]
def ia_m_X8_mean : ia_M := ("OffsetBookModel", ⟨"OffsetBookModel", "mean", "(I)J"⟩, prog_10_method_52_code, 5, (some .long), 1, ia_k_X8_mean, (844, 82, 842, 843), (2, 44))
def ia_k_X8_twos : List (List ia_E) := [[(0, .lload_n 1, 1, 0, 0, 0, .null, []), (1, .lconst 0, 1, 0, 0, 0, .long 0, []), (2, .lcmp, 1, 0, 0, 0, .null, []), (3, .ifCond .ge 5, 3, 8, 0, 0, .null, []), (6, .iconst (-1), 1, 0, 0, 0, .int (-1), []), (7, .ireturn, 1, 0, 0, 0, .null, []), (8, .iconst 0, 1, 0, 0, 0, .int 0, []), (9, .istore_n 3, 1, 0, 0, 0, .null, []), (10, .iconst 0, 1, 0, 0, 0, .int 0, []), (11, .istore 4, 2, 0, 0, 0, .null, []), (13, .iload 4, 2, 0, 0, 0, .null, []), (15, .aload_n 0, 1, 0, 0, 0, .null, [])],
  [(16, .getfield 84, 3, 8, 4, 616, .null, []), (19, .if_icmp .ge 85, 3, 104, 0, 0, .null, []), (22, .iconst 0, 1, 0, 0, 0, .int 0, []), (23, .istore 5, 2, 0, 0, 0, .null, []), (25, .iload 5, 2, 0, 0, 0, .null, []), (27, .iload 4, 2, 0, 0, 0, .null, []), (29, .if_icmp .ge 69, 3, 98, 0, 0, .null, [])],
  [(32, .aload_n 0, 1, 0, 0, 0, .null, []), (33, .getfield 36, 3, 8, 16, 628, .null, []), (36, .iload 4, 2, 0, 0, 0, .null, []), (38, .iaload, 1, 0, 0, 0, .null, []), (39, .aload_n 0, 1, 0, 0, 0, .null, []), (40, .getfield 36, 3, 8, 16, 628, .null, []), (43, .iload 5, 2, 0, 0, 0, .null, []), (45, .iaload, 1, 0, 0, 0, .null, []), (46, .if_icmp .eq 6, 3, 52, 0, 0, .null, [])],
  [(49, .goto 43, 3, 92, 0, 0, .null, []), (52, .aload_n 0, 1, 0, 0, 0, .null, []), (53, .getfield 39, 3, 8, 17, 629, .null, []), (56, .iload 4, 2, 0, 0, 0, .null, []), (58, .laload, 1, 0, 0, 0, .null, []), (59, .aload_n 0, 1, 0, 0, 0, .null, []), (60, .getfield 39, 3, 8, 17, 629, .null, []), (63, .iload 5, 2, 0, 0, 0, .null, [])],
  [(65, .laload, 1, 0, 0, 0, .null, []), (66, .lsub, 1, 0, 0, 0, .null, []), (67, .lstore 6, 2, 0, 0, 0, .null, []), (69, .iload_n 3, 1, 0, 0, 0, .null, []), (70, .lload 6, 2, 0, 0, 0, .null, []), (72, .lload_n 1, 1, 0, 0, 0, .null, []), (73, .lcmp, 1, 0, 0, 0, .null, []), (74, .ifCond .eq 11, 3, 85, 0, 0, .null, []), (77, .lload 6, 2, 0, 0, 0, .null, []), (79, .lload_n 1, 1, 0, 0, 0, .null, [])],
  [(80, .lneg, 1, 0, 0, 0, .null, []), (81, .lcmp, 1, 0, 0, 0, .null, []), (82, .ifCond .ne 7, 3, 89, 0, 0, .null, []), (85, .iconst 1, 1, 0, 0, 0, .int 1, []), (86, .goto 4, 3, 90, 0, 0, .null, []), (89, .iconst 0, 1, 0, 0, 0, .int 0, []), (90, .iadd, 1, 0, 0, 0, .null, []), (91, .istore_n 3, 1, 0, 0, 0, .null, []), (92, .iinc 5 1, 3, 0, 0, 0, .int 1, []), (95, .goto (-70), 3, 25, 0, 0, .null, [])],
  [(98, .iinc 4 1, 3, 0, 0, 0, .int 1, []), (101, .goto (-88), 3, 13, 0, 0, .null, []), (104, .iload_n 3, 1, 0, 0, 0, .null, []), (105, .ireturn, 1, 0, 0, 0, .null, [])]]
def ia_m_X8_twos : ia_M := ("OffsetBookModel", ⟨"OffsetBookModel", "twos", "(J)I"⟩, prog_10_method_53_code, 8, (some .int), 1, ia_k_X8_twos, (858, 82, 856, 857), (0, 0))
def ia_k_X8_laysFar : List (List ia_E) := [[(0, .iconst 0, 1, 0, 0, 0, .int 0, []), (1, .istore_n 2, 1, 0, 0, 0, .null, []), (2, .iload_n 2, 1, 0, 0, 0, .null, []), (3, .aload_n 0, 1, 0, 0, 0, .null, []), (4, .getfield 84, 3, 8, 4, 616, .null, []), (7, .if_icmp .ge 16, 3, 23, 0, 0, .null, []), (10, .aload_n 0, 1, 0, 0, 0, .null, []), (11, .getfield 63, 3, 8, 26, 638, .null, []), (14, .iload_n 2, 1, 0, 0, 0, .null, []), (15, .iconst (-1), 1, 0, 0, 0, .int (-1), [])],
  [(16, .iastore, 1, 0, 0, 0, .null, []), (17, .iinc 2 1, 3, 0, 0, 0, .int 1, []), (20, .goto (-18), 3, 2, 0, 0, .null, []), (23, .aload_n 0, 1, 0, 0, 0, .null, []), (24, .getfield 63, 3, 8, 26, 638, .null, []), (27, .iload_n 1, 1, 0, 0, 0, .null, []), (28, .iconst 0, 1, 0, 0, 0, .int 0, []), (29, .iastore, 1, 0, 0, 0, .null, []), (30, .aload_n 0, 1, 0, 0, 0, .null, []), (31, .getfield 57, 3, 8, 24, 636, .null, [])],
  [(34, .iconst 0, 1, 0, 0, 0, .int 0, []), (35, .iload_n 1, 1, 0, 0, 0, .null, []), (36, .iastore, 1, 0, 0, 0, .null, []), (37, .iconst 1, 1, 0, 0, 0, .int 1, []), (38, .istore_n 2, 1, 0, 0, 0, .null, []), (39, .iconst 0, 1, 0, 0, 0, .int 0, []), (40, .istore_n 3, 1, 0, 0, 0, .null, []), (41, .iload_n 3, 1, 0, 0, 0, .null, []), (42, .iload_n 2, 1, 0, 0, 0, .null, []), (43, .if_icmp .ge 151, 3, 194, 0, 0, .null, []), (46, .iconst 0, 1, 0, 0, 0, .int 0, []), (47, .istore 4, 2, 0, 0, 0, .null, [])],
  [(49, .iload 4, 2, 0, 0, 0, .null, []), (51, .aload_n 0, 1, 0, 0, 0, .null, []), (52, .getfield 159, 3, 8, 10, 622, .null, []), (55, .if_icmp .ge 133, 3, 188, 0, 0, .null, []), (58, .aload_n 0, 1, 0, 0, 0, .null, []), (59, .iload 4, 2, 0, 0, 0, .null, []), (61, .invokevirtual 206, 3, 119, 1, 790, .ref 8, [])],
  [(64, .ifCond .eq 118, 3, 182, 0, 0, .null, []), (67, .aload_n 0, 1, 0, 0, 0, .null, []), (68, .getfield 22, 3, 8, 11, 623, .null, []), (71, .iload 4, 2, 0, 0, 0, .null, []), (73, .iaload, 1, 0, 0, 0, .null, []), (74, .aload_n 0, 1, 0, 0, 0, .null, []), (75, .getfield 57, 3, 8, 24, 636, .null, []), (78, .iload_n 3, 1, 0, 0, 0, .null, []), (79, .iaload, 1, 0, 0, 0, .null, [])],
  [(80, .if_icmp .eq 22, 3, 102, 0, 0, .null, []), (83, .aload_n 0, 1, 0, 0, 0, .null, []), (84, .getfield 25, 3, 8, 12, 624, .null, []), (87, .iload 4, 2, 0, 0, 0, .null, []), (89, .iaload, 1, 0, 0, 0, .null, []), (90, .aload_n 0, 1, 0, 0, 0, .null, []), (91, .getfield 57, 3, 8, 24, 636, .null, []), (94, .iload_n 3, 1, 0, 0, 0, .null, []), (95, .iaload, 1, 0, 0, 0, .null, [])],
  [(96, .if_icmp .eq 6, 3, 102, 0, 0, .null, []), (99, .goto 83, 3, 182, 0, 0, .null, []), (102, .aload_n 0, 1, 0, 0, 0, .null, []), (103, .getfield 22, 3, 8, 11, 623, .null, []), (106, .iload 4, 2, 0, 0, 0, .null, []), (108, .iaload, 1, 0, 0, 0, .null, []), (109, .aload_n 0, 1, 0, 0, 0, .null, []), (110, .getfield 57, 3, 8, 24, 636, .null, [])],
  [(113, .iload_n 3, 1, 0, 0, 0, .null, []), (114, .iaload, 1, 0, 0, 0, .null, []), (115, .if_icmp .ne 13, 3, 128, 0, 0, .null, []), (118, .aload_n 0, 1, 0, 0, 0, .null, []), (119, .getfield 25, 3, 8, 12, 624, .null, []), (122, .iload 4, 2, 0, 0, 0, .null, []), (124, .iaload, 1, 0, 0, 0, .null, []), (125, .goto 10, 3, 135, 0, 0, .null, [])],
  [(128, .aload_n 0, 1, 0, 0, 0, .null, []), (129, .getfield 22, 3, 8, 11, 623, .null, []), (132, .iload 4, 2, 0, 0, 0, .null, []), (134, .iaload, 1, 0, 0, 0, .null, []), (135, .istore 5, 2, 0, 0, 0, .null, []), (137, .aload_n 0, 1, 0, 0, 0, .null, []), (138, .getfield 63, 3, 8, 26, 638, .null, []), (141, .iload 5, 2, 0, 0, 0, .null, []), (143, .iaload, 1, 0, 0, 0, .null, [])],
  [(144, .iconst (-1), 1, 0, 0, 0, .int (-1), []), (145, .if_icmp .eq 6, 3, 151, 0, 0, .null, []), (148, .goto 34, 3, 182, 0, 0, .null, []), (151, .aload_n 0, 1, 0, 0, 0, .null, []), (152, .getfield 63, 3, 8, 26, 638, .null, []), (155, .iload 5, 2, 0, 0, 0, .null, []), (157, .aload_n 0, 1, 0, 0, 0, .null, []), (158, .getfield 63, 3, 8, 26, 638, .null, [])],
  [(161, .aload_n 0, 1, 0, 0, 0, .null, []), (162, .getfield 57, 3, 8, 24, 636, .null, []), (165, .iload_n 3, 1, 0, 0, 0, .null, []), (166, .iaload, 1, 0, 0, 0, .null, []), (167, .iaload, 1, 0, 0, 0, .null, []), (168, .iconst 1, 1, 0, 0, 0, .int 1, []), (169, .iadd, 1, 0, 0, 0, .null, []), (170, .iastore, 1, 0, 0, 0, .null, []), (171, .aload_n 0, 1, 0, 0, 0, .null, []), (172, .getfield 57, 3, 8, 24, 636, .null, []), (175, .iload_n 2, 1, 0, 0, 0, .null, [])],
  [(176, .iload 5, 2, 0, 0, 0, .null, []), (178, .iastore, 1, 0, 0, 0, .null, []), (179, .iinc 2 1, 3, 0, 0, 0, .int 1, []), (182, .iinc 4 1, 3, 0, 0, 0, .int 1, []), (185, .goto (-136), 3, 49, 0, 0, .null, []), (188, .iinc 3 1, 3, 0, 0, 0, .int 1, []), (191, .goto (-150), 3, 41, 0, 0, .null, [])],
  [(194, .return_, 1, 0, 0, 0, .null, [])]]
def ia_m_X8_laysFar : ia_M := ("OffsetBookModel", ⟨"OffsetBookModel", "laysFar", "(I)V"⟩, prog_10_method_54_code, 6, none, 1, ia_k_X8_laysFar, (868, 82, 867, 63), (1, 21))
def ia_k_X8_laysChain : List (List ia_E) := [[(0, .aload_n 0, 1, 0, 0, 0, .null, []), (1, .getfield 36, 3, 8, 16, 628, .null, []), (4, .iload_n 1, 1, 0, 0, 0, .null, []), (5, .iaload, 1, 0, 0, 0, .null, []), (6, .aload_n 0, 1, 0, 0, 0, .null, []), (7, .getfield 36, 3, 8, 16, 628, .null, []), (10, .iload_n 2, 1, 0, 0, 0, .null, []), (11, .iaload, 1, 0, 0, 0, .null, []), (12, .if_icmp .eq 5, 3, 17, 0, 0, .null, []), (15, .iconst (-1), 1, 0, 0, 0, .int (-1), [])],
  [(16, .ireturn, 1, 0, 0, 0, .null, []), (17, .aload_n 0, 1, 0, 0, 0, .null, []), (18, .iload_n 2, 1, 0, 0, 0, .null, []), (19, .invokevirtual 238, 3, 149, 1, 866, .ref 8, []), (22, .iload_n 1, 1, 0, 0, 0, .null, []), (23, .istore_n 3, 1, 0, 0, 0, .null, []), (24, .iconst 0, 1, 0, 0, 0, .int 0, []), (25, .istore 4, 2, 0, 0, 0, .null, []), (27, .iload_n 3, 1, 0, 0, 0, .null, []), (28, .iload_n 2, 1, 0, 0, 0, .null, []), (29, .if_icmp .eq 66, 3, 95, 0, 0, .null, [])],
  [(32, .iconst 0, 1, 0, 0, 0, .int 0, []), (33, .istore 5, 2, 0, 0, 0, .null, []), (35, .aload_n 0, 1, 0, 0, 0, .null, []), (36, .iload 5, 2, 0, 0, 0, .null, []), (38, .iload_n 3, 1, 0, 0, 0, .null, []), (39, .invokevirtual 241, 3, 151, 2, 869, .ref 8, []), (42, .ifCond .ne 9, 3, 51, 0, 0, .null, []), (45, .iinc 5 1, 3, 0, 0, 0, .int 1, [])],
  [(48, .goto (-13), 3, 35, 0, 0, .null, []), (51, .aload_n 0, 1, 0, 0, 0, .null, []), (52, .getfield 66, 3, 8, 27, 639, .null, []), (55, .iload 4, 2, 0, 0, 0, .null, []), (57, .iload 5, 2, 0, 0, 0, .null, []), (59, .iastore, 1, 0, 0, 0, .null, []), (60, .iinc 4 1, 3, 0, 0, 0, .int 1, []), (63, .aload_n 0, 1, 0, 0, 0, .null, [])],
  [(64, .getfield 22, 3, 8, 11, 623, .null, []), (67, .iload 5, 2, 0, 0, 0, .null, []), (69, .iaload, 1, 0, 0, 0, .null, []), (70, .iload_n 3, 1, 0, 0, 0, .null, []), (71, .if_icmp .ne 13, 3, 84, 0, 0, .null, []), (74, .aload_n 0, 1, 0, 0, 0, .null, []), (75, .getfield 25, 3, 8, 12, 624, .null, []), (78, .iload 5, 2, 0, 0, 0, .null, [])],
  [(80, .iaload, 1, 0, 0, 0, .null, []), (81, .goto 10, 3, 91, 0, 0, .null, []), (84, .aload_n 0, 1, 0, 0, 0, .null, []), (85, .getfield 22, 3, 8, 11, 623, .null, []), (88, .iload 5, 2, 0, 0, 0, .null, []), (90, .iaload, 1, 0, 0, 0, .null, []), (91, .istore_n 3, 1, 0, 0, 0, .null, []), (92, .goto (-65), 3, 27, 0, 0, .null, []), (95, .iload 4, 2, 0, 0, 0, .null, [])],
  [(97, .ireturn, 1, 0, 0, 0, .null, [])]]
def ia_m_X8_laysChain : ia_M := ("OffsetBookModel", ⟨"OffsetBookModel", "laysChain", "(II)I"⟩, prog_10_method_55_code, 6, (some .int), 2, ia_k_X8_laysChain, (865, 82, 864, 62), (2, 46))
def ia_k_X8_isStep : List (List ia_E) := [[(0, .aload_n 0, 1, 0, 0, 0, .null, []), (1, .iload_n 1, 1, 0, 0, 0, .null, []), (2, .invokevirtual 206, 3, 119, 1, 790, .ref 8, []), (5, .ifCond .ne 5, 3, 10, 0, 0, .null, []), (8, .iconst 0, 1, 0, 0, 0, .int 0, []), (9, .ireturn, 1, 1, 0, 0, .null, []), (10, .aload_n 0, 1, 0, 0, 0, .null, []), (11, .getfield 22, 3, 8, 11, 623, .null, []), (14, .iload_n 1, 1, 0, 0, 0, .null, []), (15, .iaload, 1, 0, 0, 0, .null, [])],
  [(16, .iload_n 2, 1, 0, 0, 0, .null, []), (17, .if_icmp .ne 25, 3, 42, 0, 0, .null, []), (20, .aload_n 0, 1, 0, 0, 0, .null, []), (21, .getfield 63, 3, 8, 26, 638, .null, []), (24, .aload_n 0, 1, 0, 0, 0, .null, []), (25, .getfield 25, 3, 8, 12, 624, .null, []), (28, .iload_n 1, 1, 0, 0, 0, .null, []), (29, .iaload, 1, 0, 0, 0, .null, []), (30, .iaload, 1, 0, 0, 0, .null, []), (31, .aload_n 0, 1, 0, 0, 0, .null, [])],
  [(32, .getfield 63, 3, 8, 26, 638, .null, []), (35, .iload_n 2, 1, 0, 0, 0, .null, []), (36, .iaload, 1, 0, 0, 0, .null, []), (37, .iconst 1, 1, 0, 0, 0, .int 1, []), (38, .isub, 1, 0, 0, 0, .null, []), (39, .if_icmp .eq 35, 3, 74, 0, 0, .null, []), (42, .aload_n 0, 1, 0, 0, 0, .null, []), (43, .getfield 25, 3, 8, 12, 624, .null, []), (46, .iload_n 1, 1, 0, 0, 0, .null, []), (47, .iaload, 1, 0, 0, 0, .null, [])],
  [(48, .iload_n 2, 1, 0, 0, 0, .null, []), (49, .if_icmp .ne 29, 3, 78, 0, 0, .null, []), (52, .aload_n 0, 1, 0, 0, 0, .null, []), (53, .getfield 63, 3, 8, 26, 638, .null, []), (56, .aload_n 0, 1, 0, 0, 0, .null, []), (57, .getfield 22, 3, 8, 11, 623, .null, []), (60, .iload_n 1, 1, 0, 0, 0, .null, []), (61, .iaload, 1, 0, 0, 0, .null, []), (62, .iaload, 1, 0, 0, 0, .null, []), (63, .aload_n 0, 1, 0, 0, 0, .null, [])],
  [(64, .getfield 63, 3, 8, 26, 638, .null, []), (67, .iload_n 2, 1, 0, 0, 0, .null, []), (68, .iaload, 1, 0, 0, 0, .null, []), (69, .iconst 1, 1, 0, 0, 0, .int 1, []), (70, .isub, 1, 0, 0, 0, .null, []), (71, .if_icmp .ne 7, 3, 78, 0, 0, .null, []), (74, .iconst 1, 1, 0, 0, 0, .int 1, []), (75, .goto 4, 3, 79, 0, 0, .null, []), (78, .iconst 0, 1, 0, 0, 0, .int 0, []), (79, .ireturn, 1, 1, 0, 0, .null, [])]]
def ia_m_X8_isStep : ia_M := ("OffsetBookModel", ⟨"OffsetBookModel", "isStep", "(II)Z"⟩, prog_10_method_56_code, 3, (some .boolean), 2, ia_k_X8_isStep, (871, 82, 870, 64), (1, 21))
def ia_k_X8_chain : List (List ia_E) := [[(0, .aload_n 0, 1, 0, 0, 0, .null, []), (1, .iload_n 1, 1, 0, 0, 0, .null, []), (2, .invokevirtual 223, 3, 138, 1, 812, .ref 8, []), (5, .ifCond .eq 16, 3, 21, 0, 0, .null, []), (8, .aload_n 0, 1, 0, 0, 0, .null, []), (9, .iload_n 2, 1, 0, 0, 0, .null, []), (10, .invokevirtual 223, 3, 138, 1, 812, .ref 8, []), (13, .ifCond .eq 8, 3, 21, 0, 0, .null, [])],
  [(16, .iload_n 3, 1, 0, 0, 0, .null, []), (17, .iconst (-1), 1, 0, 0, 0, .int (-1), []), (18, .if_icmp .ge 5, 3, 23, 0, 0, .null, []), (21, .iconst (-1), 1, 0, 0, 0, .int (-1), []), (22, .ireturn, 1, 0, 0, 0, .null, []), (23, .aload_n 0, 1, 0, 0, 0, .null, []), (24, .iload_n 1, 1, 0, 0, 0, .null, []), (25, .iload_n 2, 1, 0, 0, 0, .null, []), (26, .invokevirtual 244, 3, 150, 2, 863, .ref 8, []), (29, .istore 4, 2, 0, 0, 0, .null, []), (31, .iload 4, 2, 0, 0, 0, .null, [])],
  [(33, .ifCond .ge 6, 3, 39, 0, 0, .null, []), (36, .bipush (-2), 2, 0, 0, 0, .int (-2), []), (38, .ireturn, 1, 0, 0, 0, .null, []), (39, .iload_n 3, 1, 0, 0, 0, .null, []), (40, .iconst (-1), 1, 0, 0, 0, .int (-1), []), (41, .if_icmp .ne 8, 3, 49, 0, 0, .null, []), (44, .iload 4, 2, 0, 0, 0, .null, []), (46, .goto 20, 3, 66, 0, 0, .null, [])],
  [(49, .iload_n 3, 1, 0, 0, 0, .null, []), (50, .iload 4, 2, 0, 0, 0, .null, []), (52, .if_icmp .ge 12, 3, 64, 0, 0, .null, []), (55, .aload_n 0, 1, 0, 0, 0, .null, []), (56, .getfield 66, 3, 8, 27, 639, .null, []), (59, .iload_n 3, 1, 0, 0, 0, .null, []), (60, .iaload, 1, 0, 0, 0, .null, []), (61, .goto 5, 3, 66, 0, 0, .null, [])],
  [(64, .bipush (-2), 2, 0, 0, 0, .int (-2), []), (66, .ireturn, 1, 0, 0, 0, .null, [])]]
def ia_m_X8_chain : ia_M := ("OffsetBookModel", ⟨"OffsetBookModel", "chain", "(III)I"⟩, prog_10_method_57_code, 5, (some .int), 3, ia_k_X8_chain, (862, 82, 860, 861), (3, 71))
def ia_k_X8_blame : List (List ia_E) := [[(0, .iload_n 1, 1, 0, 0, 0, .null, []), (1, .i2l, 1, 0, 0, 0, .null, []), (2, .lconst 0, 1, 0, 0, 0, .long 0, []), (3, .lconst 1, 1, 0, 0, 0, .long 1, []), (4, .invokestatic 94, 3, 103, 3, 686, .null, []), (7, .ifCond .ne 5, 3, 12, 0, 0, .null, []), (10, .iconst (-1), 1, 0, 0, 0, .int (-1), []), (11, .ireturn, 1, 0, 0, 0, .null, []), (12, .iconst 0, 1, 0, 0, 0, .int 0, []), (13, .istore_n 2, 1, 0, 0, 0, .null, []), (14, .iload_n 2, 1, 0, 0, 0, .null, []), (15, .aload_n 0, 1, 0, 0, 0, .null, [])],
  [(16, .getfield 159, 3, 8, 10, 622, .null, []), (19, .if_icmp .ge 16, 3, 35, 0, 0, .null, []), (22, .aload_n 0, 1, 0, 0, 0, .null, []), (23, .getfield 69, 3, 8, 28, 640, .null, []), (26, .iload_n 2, 1, 0, 0, 0, .null, []), (27, .iconst 0, 1, 0, 0, 0, .int 0, []), (28, .iastore, 1, 0, 0, 0, .null, []), (29, .iinc 2 1, 3, 0, 0, 0, .int 1, [])],
  [(32, .goto (-18), 3, 14, 0, 0, .null, []), (35, .iconst 0, 1, 0, 0, 0, .int 0, []), (36, .istore_n 2, 1, 0, 0, 0, .null, []), (37, .iload_n 2, 1, 0, 0, 0, .null, []), (38, .aload_n 0, 1, 0, 0, 0, .null, []), (39, .getfield 159, 3, 8, 10, 622, .null, []), (42, .if_icmp .ge 70, 3, 112, 0, 0, .null, []), (45, .aload_n 0, 1, 0, 0, 0, .null, []), (46, .getfield 42, 3, 8, 18, 630, .null, [])],
  [(49, .iload_n 2, 1, 0, 0, 0, .null, []), (50, .iaload, 1, 0, 0, 0, .null, []), (51, .iconst 2, 1, 0, 0, 0, .int 2, []), (52, .if_icmp .eq 6, 3, 58, 0, 0, .null, []), (55, .goto 51, 3, 106, 0, 0, .null, []), (58, .aload_n 0, 1, 0, 0, 0, .null, []), (59, .aload_n 0, 1, 0, 0, 0, .null, []), (60, .getfield 22, 3, 8, 11, 623, .null, []), (63, .iload_n 2, 1, 0, 0, 0, .null, [])],
  [(64, .iaload, 1, 0, 0, 0, .null, []), (65, .aload_n 0, 1, 0, 0, 0, .null, []), (66, .getfield 25, 3, 8, 12, 624, .null, []), (69, .iload_n 2, 1, 0, 0, 0, .null, []), (70, .iaload, 1, 0, 0, 0, .null, []), (71, .invokevirtual 244, 3, 150, 2, 863, .ref 8, []), (74, .istore_n 3, 1, 0, 0, 0, .null, []), (75, .iconst 0, 1, 0, 0, 0, .int 0, []), (76, .istore 4, 2, 0, 0, 0, .null, []), (78, .iload 4, 2, 0, 0, 0, .null, [])],
  [(80, .iload_n 3, 1, 0, 0, 0, .null, []), (81, .if_icmp .ge 25, 3, 106, 0, 0, .null, []), (84, .aload_n 0, 1, 0, 0, 0, .null, []), (85, .getfield 69, 3, 8, 28, 640, .null, []), (88, .aload_n 0, 1, 0, 0, 0, .null, []), (89, .getfield 66, 3, 8, 27, 639, .null, []), (92, .iload 4, 2, 0, 0, 0, .null, []), (94, .iaload, 1, 0, 0, 0, .null, []), (95, .dup2, 1, 0, 0, 0, .null, [])],
  [(96, .iaload, 1, 0, 0, 0, .null, []), (97, .iconst 1, 1, 0, 0, 0, .int 1, []), (98, .iadd, 1, 0, 0, 0, .null, []), (99, .iastore, 1, 0, 0, 0, .null, []), (100, .iinc 4 1, 3, 0, 0, 0, .int 1, []), (103, .goto (-25), 3, 78, 0, 0, .null, []), (106, .iinc 2 1, 3, 0, 0, 0, .int 1, []), (109, .goto (-72), 3, 37, 0, 0, .null, [])],
  [(112, .bipush (-2), 2, 0, 0, 0, .int (-2), []), (114, .istore_n 2, 1, 0, 0, 0, .null, []), (115, .iconst 0, 1, 0, 0, 0, .int 0, []), (116, .istore_n 3, 1, 0, 0, 0, .null, []), (117, .iconst 0, 1, 0, 0, 0, .int 0, []), (118, .istore 4, 2, 0, 0, 0, .null, []), (120, .iload 4, 2, 0, 0, 0, .null, []), (122, .aload_n 0, 1, 0, 0, 0, .null, []), (123, .getfield 159, 3, 8, 10, 622, .null, []), (126, .if_icmp .ge 34, 3, 160, 0, 0, .null, [])],
  [(129, .aload_n 0, 1, 0, 0, 0, .null, []), (130, .getfield 69, 3, 8, 28, 640, .null, []), (133, .iload 4, 2, 0, 0, 0, .null, []), (135, .iaload, 1, 0, 0, 0, .null, []), (136, .iload_n 3, 1, 0, 0, 0, .null, []), (137, .if_icmp .gt 6, 3, 143, 0, 0, .null, []), (140, .goto 14, 3, 154, 0, 0, .null, []), (143, .iload 4, 2, 0, 0, 0, .null, [])],
  [(145, .istore_n 2, 1, 0, 0, 0, .null, []), (146, .aload_n 0, 1, 0, 0, 0, .null, []), (147, .getfield 69, 3, 8, 28, 640, .null, []), (150, .iload 4, 2, 0, 0, 0, .null, []), (152, .iaload, 1, 0, 0, 0, .null, []), (153, .istore_n 3, 1, 0, 0, 0, .null, []), (154, .iinc 4 1, 3, 0, 0, 0, .int 1, []), (157, .goto (-37), 3, 120, 0, 0, .null, [])],
  [(160, .iload_n 1, 1, 0, 0, 0, .null, []), (161, .ifCond .ne 7, 3, 168, 0, 0, .null, []), (164, .iload_n 2, 1, 0, 0, 0, .null, []), (165, .goto 15, 3, 180, 0, 0, .null, []), (168, .iload_n 2, 1, 0, 0, 0, .null, []), (169, .bipush (-2), 2, 0, 0, 0, .int (-2), []), (171, .if_icmp .ne 8, 3, 179, 0, 0, .null, []), (174, .bipush (-2), 2, 0, 0, 0, .int (-2), [])],
  [(176, .goto 4, 3, 180, 0, 0, .null, []), (179, .iload_n 3, 1, 0, 0, 0, .null, []), (180, .ireturn, 1, 0, 0, 0, .null, [])]]
def ia_m_X8_blame : ia_M := ("OffsetBookModel", ⟨"OffsetBookModel", "blame", "(I)I"⟩, prog_10_method_58_code, 5, (some .int), 1, ia_k_X8_blame, (875, 82, 873, 874), (3, 71))
def ia_k_X8_canGo : List (List ia_E) := [[(0, .aload_n 0, 1, 0, 0, 0, .null, []), (1, .iload_n 1, 1, 0, 0, 0, .null, []), (2, .invokevirtual 206, 3, 119, 1, 790, .ref 8, []), (5, .ifCond .ne 5, 3, 10, 0, 0, .null, []), (8, .iconst 0, 1, 0, 0, 0, .int 0, []), (9, .ireturn, 1, 1, 0, 0, .null, []), (10, .aload_n 0, 1, 0, 0, 0, .null, []), (11, .getfield 22, 3, 8, 11, 623, .null, []), (14, .iload_n 1, 1, 0, 0, 0, .null, []), (15, .iaload, 1, 0, 0, 0, .null, [])],
  [(16, .iload_n 2, 1, 0, 0, 0, .null, []), (17, .if_icmp .ne 21, 3, 38, 0, 0, .null, []), (20, .aload_n 0, 1, 0, 0, 0, .null, []), (21, .getfield 72, 3, 8, 29, 641, .null, []), (24, .iload_n 1, 1, 0, 0, 0, .null, []), (25, .iaload, 1, 0, 0, 0, .null, []), (26, .iconst 1, 1, 0, 0, 0, .int 1, []), (27, .if_icmp .ge 7, 3, 34, 0, 0, .null, []), (30, .iconst 1, 1, 0, 0, 0, .int 1, []), (31, .goto 32, 3, 63, 0, 0, .null, [])],
  [(34, .iconst 0, 1, 0, 0, 0, .int 0, []), (35, .goto 28, 3, 63, 0, 0, .null, []), (38, .aload_n 0, 1, 0, 0, 0, .null, []), (39, .getfield 25, 3, 8, 12, 624, .null, []), (42, .iload_n 1, 1, 0, 0, 0, .null, []), (43, .iaload, 1, 0, 0, 0, .null, []), (44, .iload_n 2, 1, 0, 0, 0, .null, []), (45, .if_icmp .ne 17, 3, 62, 0, 0, .null, [])],
  [(48, .aload_n 0, 1, 0, 0, 0, .null, []), (49, .getfield 72, 3, 8, 29, 641, .null, []), (52, .iload_n 1, 1, 0, 0, 0, .null, []), (53, .iaload, 1, 0, 0, 0, .null, []), (54, .iconst (-1), 1, 0, 0, 0, .int (-1), []), (55, .if_icmp .le 7, 3, 62, 0, 0, .null, []), (58, .iconst 1, 1, 0, 0, 0, .int 1, []), (59, .goto 4, 3, 63, 0, 0, .null, []), (62, .iconst 0, 1, 0, 0, 0, .int 0, []), (63, .ireturn, 1, 1, 0, 0, .null, [])]]
def ia_m_X8_canGo : ia_M := ("OffsetBookModel", ⟨"OffsetBookModel", "canGo", "(II)Z"⟩, prog_10_method_59_code, 3, (some .boolean), 2, ia_k_X8_canGo, (885, 82, 884, 66), (1, 21))
def ia_k_X8_spreads : List (List ia_E) := [[(0, .iconst 0, 1, 0, 0, 0, .int 0, []), (1, .istore_n 2, 1, 0, 0, 0, .null, []), (2, .iload_n 2, 1, 0, 0, 0, .null, []), (3, .aload_n 0, 1, 0, 0, 0, .null, []), (4, .getfield 84, 3, 8, 4, 616, .null, []), (7, .if_icmp .ge 16, 3, 23, 0, 0, .null, []), (10, .aload_n 0, 1, 0, 0, 0, .null, []), (11, .getfield 54, 3, 8, 23, 635, .null, []), (14, .iload_n 2, 1, 0, 0, 0, .null, []), (15, .iconst 0, 1, 0, 0, 0, .int 0, [])],
  [(16, .bastore, 1, 0, 0, 0, .null, []), (17, .iinc 2 1, 3, 0, 0, 0, .int 1, []), (20, .goto (-18), 3, 2, 0, 0, .null, []), (23, .aload_n 0, 1, 0, 0, 0, .null, []), (24, .getfield 54, 3, 8, 23, 635, .null, []), (27, .iload_n 1, 1, 0, 0, 0, .null, []), (28, .iconst 1, 1, 0, 0, 0, .int 1, []), (29, .bastore, 1, 0, 0, 0, .null, []), (30, .aload_n 0, 1, 0, 0, 0, .null, []), (31, .getfield 57, 3, 8, 24, 636, .null, [])],
  [(34, .iconst 0, 1, 0, 0, 0, .int 0, []), (35, .iload_n 1, 1, 0, 0, 0, .null, []), (36, .iastore, 1, 0, 0, 0, .null, []), (37, .iconst 1, 1, 0, 0, 0, .int 1, []), (38, .istore_n 2, 1, 0, 0, 0, .null, []), (39, .iconst 0, 1, 0, 0, 0, .int 0, []), (40, .istore_n 3, 1, 0, 0, 0, .null, []), (41, .iload_n 3, 1, 0, 0, 0, .null, []), (42, .iload_n 2, 1, 0, 0, 0, .null, []), (43, .if_icmp .ge 121, 3, 164, 0, 0, .null, []), (46, .iconst 0, 1, 0, 0, 0, .int 0, []), (47, .istore 4, 2, 0, 0, 0, .null, [])],
  [(49, .iload 4, 2, 0, 0, 0, .null, []), (51, .aload_n 0, 1, 0, 0, 0, .null, []), (52, .getfield 159, 3, 8, 10, 622, .null, []), (55, .if_icmp .ge 103, 3, 158, 0, 0, .null, []), (58, .aload_n 0, 1, 0, 0, 0, .null, []), (59, .iload 4, 2, 0, 0, 0, .null, []), (61, .aload_n 0, 1, 0, 0, 0, .null, []), (62, .getfield 57, 3, 8, 24, 636, .null, [])],
  [(65, .iload_n 3, 1, 0, 0, 0, .null, []), (66, .iaload, 1, 0, 0, 0, .null, []), (67, .invokevirtual 247, 3, 154, 2, 883, .ref 8, []), (70, .ifCond .ne 6, 3, 76, 0, 0, .null, []), (73, .goto 79, 3, 152, 0, 0, .null, []), (76, .aload_n 0, 1, 0, 0, 0, .null, []), (77, .getfield 22, 3, 8, 11, 623, .null, [])],
  [(80, .iload 4, 2, 0, 0, 0, .null, []), (82, .iaload, 1, 0, 0, 0, .null, []), (83, .aload_n 0, 1, 0, 0, 0, .null, []), (84, .getfield 57, 3, 8, 24, 636, .null, []), (87, .iload_n 3, 1, 0, 0, 0, .null, []), (88, .iaload, 1, 0, 0, 0, .null, []), (89, .if_icmp .ne 13, 3, 102, 0, 0, .null, []), (92, .aload_n 0, 1, 0, 0, 0, .null, []), (93, .getfield 25, 3, 8, 12, 624, .null, [])],
  [(96, .iload 4, 2, 0, 0, 0, .null, []), (98, .iaload, 1, 0, 0, 0, .null, []), (99, .goto 10, 3, 109, 0, 0, .null, []), (102, .aload_n 0, 1, 0, 0, 0, .null, []), (103, .getfield 22, 3, 8, 11, 623, .null, []), (106, .iload 4, 2, 0, 0, 0, .null, []), (108, .iaload, 1, 0, 0, 0, .null, []), (109, .istore 5, 2, 0, 0, 0, .null, []), (111, .aload_n 0, 1, 0, 0, 0, .null, [])],
  [(112, .getfield 54, 3, 8, 23, 635, .null, []), (115, .iload 5, 2, 0, 0, 0, .null, []), (117, .baload, 1, 0, 0, 0, .null, []), (118, .ifCond .eq 6, 3, 124, 0, 0, .null, []), (121, .goto 31, 3, 152, 0, 0, .null, []), (124, .aload_n 0, 1, 0, 0, 0, .null, []), (125, .getfield 54, 3, 8, 23, 635, .null, [])],
  [(128, .iload 5, 2, 0, 0, 0, .null, []), (130, .iconst 1, 1, 0, 0, 0, .int 1, []), (131, .bastore, 1, 0, 0, 0, .null, []), (132, .aload_n 0, 1, 0, 0, 0, .null, []), (133, .getfield 75, 3, 8, 30, 642, .null, []), (136, .iload 5, 2, 0, 0, 0, .null, []), (138, .iload 4, 2, 0, 0, 0, .null, []), (140, .iastore, 1, 0, 0, 0, .null, []), (141, .aload_n 0, 1, 0, 0, 0, .null, []), (142, .getfield 57, 3, 8, 24, 636, .null, [])],
  [(145, .iload_n 2, 1, 0, 0, 0, .null, []), (146, .iload 5, 2, 0, 0, 0, .null, []), (148, .iastore, 1, 0, 0, 0, .null, []), (149, .iinc 2 1, 3, 0, 0, 0, .int 1, []), (152, .iinc 4 1, 3, 0, 0, 0, .int 1, []), (155, .goto (-106), 3, 49, 0, 0, .null, []), (158, .iinc 3 1, 3, 0, 0, 0, .int 1, [])],
  [(161, .goto (-120), 3, 41, 0, 0, .null, []), (164, .return_, 1, 0, 0, 0, .null, [])]]
def ia_m_X8_spreads : ia_M := ("OffsetBookModel", ⟨"OffsetBookModel", "spreads", "(I)V"⟩, prog_10_method_60_code, 6, none, 1, ia_k_X8_spreads, (882, 82, 881, 65), (2, 43))
def ia_k_X8_laysPath : List (List ia_E) := [[(0, .iload_n 2, 1, 0, 0, 0, .null, []), (1, .istore_n 3, 1, 0, 0, 0, .null, []), (2, .iload_n 3, 1, 0, 0, 0, .null, []), (3, .iload_n 1, 1, 0, 0, 0, .null, []), (4, .if_icmp .eq 66, 3, 70, 0, 0, .null, []), (7, .aload_n 0, 1, 0, 0, 0, .null, []), (8, .getfield 75, 3, 8, 30, 642, .null, []), (11, .iload_n 3, 1, 0, 0, 0, .null, []), (12, .iaload, 1, 0, 0, 0, .null, []), (13, .istore 4, 2, 0, 0, 0, .null, []), (15, .aload_n 0, 1, 0, 0, 0, .null, [])],
  [(16, .getfield 25, 3, 8, 12, 624, .null, []), (19, .iload 4, 2, 0, 0, 0, .null, []), (21, .iaload, 1, 0, 0, 0, .null, []), (22, .iload_n 3, 1, 0, 0, 0, .null, []), (23, .if_icmp .ne 25, 3, 48, 0, 0, .null, []), (26, .aload_n 0, 1, 0, 0, 0, .null, []), (27, .getfield 72, 3, 8, 29, 641, .null, []), (30, .iload 4, 2, 0, 0, 0, .null, [])],
  [(32, .dup2, 1, 0, 0, 0, .null, []), (33, .iaload, 1, 0, 0, 0, .null, []), (34, .iconst 1, 1, 0, 0, 0, .int 1, []), (35, .iadd, 1, 0, 0, 0, .null, []), (36, .iastore, 1, 0, 0, 0, .null, []), (37, .aload_n 0, 1, 0, 0, 0, .null, []), (38, .getfield 22, 3, 8, 11, 623, .null, []), (41, .iload 4, 2, 0, 0, 0, .null, []), (43, .iaload, 1, 0, 0, 0, .null, []), (44, .istore_n 3, 1, 0, 0, 0, .null, []), (45, .goto 22, 3, 67, 0, 0, .null, [])],
  [(48, .aload_n 0, 1, 0, 0, 0, .null, []), (49, .getfield 72, 3, 8, 29, 641, .null, []), (52, .iload 4, 2, 0, 0, 0, .null, []), (54, .dup2, 1, 0, 0, 0, .null, []), (55, .iaload, 1, 0, 0, 0, .null, []), (56, .iconst 1, 1, 0, 0, 0, .int 1, []), (57, .isub, 1, 0, 0, 0, .null, []), (58, .iastore, 1, 0, 0, 0, .null, []), (59, .aload_n 0, 1, 0, 0, 0, .null, []), (60, .getfield 25, 3, 8, 12, 624, .null, []), (63, .iload 4, 2, 0, 0, 0, .null, [])],
  [(65, .iaload, 1, 0, 0, 0, .null, []), (66, .istore_n 3, 1, 0, 0, 0, .null, []), (67, .goto (-65), 3, 2, 0, 0, .null, []), (70, .return_, 1, 0, 0, 0, .null, [])]]
def ia_m_X8_laysPath : ia_M := ("OffsetBookModel", ⟨"OffsetBookModel", "laysPath", "(II)V"⟩, prog_10_method_61_code, 5, none, 2, ia_k_X8_laysPath, (888, 82, 887, 67), (0, 0))
def ia_k_X8_isCut : List (List ia_E) := [[(0, .aload_n 0, 1, 0, 0, 0, .null, []), (1, .iload_n 1, 1, 0, 0, 0, .null, []), (2, .invokevirtual 206, 3, 119, 1, 790, .ref 8, []), (5, .ifCond .eq 32, 3, 37, 0, 0, .null, []), (8, .aload_n 0, 1, 0, 0, 0, .null, []), (9, .getfield 54, 3, 8, 23, 635, .null, []), (12, .aload_n 0, 1, 0, 0, 0, .null, []), (13, .getfield 22, 3, 8, 11, 623, .null, [])],
  [(16, .iload_n 1, 1, 0, 0, 0, .null, []), (17, .iaload, 1, 0, 0, 0, .null, []), (18, .baload, 1, 0, 0, 0, .null, []), (19, .aload_n 0, 1, 0, 0, 0, .null, []), (20, .getfield 54, 3, 8, 23, 635, .null, []), (23, .aload_n 0, 1, 0, 0, 0, .null, []), (24, .getfield 25, 3, 8, 12, 624, .null, []), (27, .iload_n 1, 1, 0, 0, 0, .null, []), (28, .iaload, 1, 0, 0, 0, .null, []), (29, .baload, 1, 0, 0, 0, .null, []), (30, .if_icmp .eq 7, 3, 37, 0, 0, .null, [])],
  [(33, .iconst 1, 1, 0, 0, 0, .int 1, []), (34, .goto 4, 3, 38, 0, 0, .null, []), (37, .iconst 0, 1, 0, 0, 0, .int 0, []), (38, .ireturn, 1, 1, 0, 0, .null, [])]]
def ia_m_X8_isCut : ia_M := ("OffsetBookModel", ⟨"OffsetBookModel", "isCut", "(I)Z"⟩, prog_10_method_62_code, 2, (some .boolean), 1, ia_k_X8_isCut, (891, 82, 890, 68), (1, 21))
def ia_k_X8_cut : List (List ia_E) := [[(0, .aload_n 0, 1, 0, 0, 0, .null, []), (1, .iload_n 1, 1, 0, 0, 0, .null, []), (2, .invokevirtual 184, 3, 118, 1, 754, .ref 8, []), (5, .ifCond .eq 18, 3, 23, 0, 0, .null, []), (8, .aload_n 0, 1, 0, 0, 0, .null, []), (9, .getfield 42, 3, 8, 18, 630, .null, []), (12, .iload_n 1, 1, 0, 0, 0, .null, []), (13, .iaload, 1, 0, 0, 0, .null, []), (14, .iconst 2, 1, 0, 0, 0, .int 2, []), (15, .if_icmp .ne 8, 3, 23, 0, 0, .null, [])],
  [(18, .iload_n 2, 1, 0, 0, 0, .null, []), (19, .iconst (-1), 1, 0, 0, 0, .int (-1), []), (20, .if_icmp .ge 5, 3, 25, 0, 0, .null, []), (23, .iconst (-1), 1, 0, 0, 0, .int (-1), []), (24, .ireturn, 1, 0, 0, 0, .null, []), (25, .iconst 0, 1, 0, 0, 0, .int 0, []), (26, .istore_n 3, 1, 0, 0, 0, .null, []), (27, .iload_n 3, 1, 0, 0, 0, .null, []), (28, .aload_n 0, 1, 0, 0, 0, .null, []), (29, .getfield 159, 3, 8, 10, 622, .null, [])],
  [(32, .if_icmp .ge 16, 3, 48, 0, 0, .null, []), (35, .aload_n 0, 1, 0, 0, 0, .null, []), (36, .getfield 72, 3, 8, 29, 641, .null, []), (39, .iload_n 3, 1, 0, 0, 0, .null, []), (40, .iconst 0, 1, 0, 0, 0, .int 0, []), (41, .iastore, 1, 0, 0, 0, .null, []), (42, .iinc 3 1, 3, 0, 0, 0, .int 1, []), (45, .goto (-18), 3, 27, 0, 0, .null, [])],
  [(48, .aload_n 0, 1, 0, 0, 0, .null, []), (49, .aload_n 0, 1, 0, 0, 0, .null, []), (50, .getfield 22, 3, 8, 11, 623, .null, []), (53, .iload_n 1, 1, 0, 0, 0, .null, []), (54, .iaload, 1, 0, 0, 0, .null, []), (55, .invokevirtual 250, 3, 155, 1, 880, .ref 8, []), (58, .aload_n 0, 1, 0, 0, 0, .null, []), (59, .getfield 54, 3, 8, 23, 635, .null, []), (62, .aload_n 0, 1, 0, 0, 0, .null, []), (63, .getfield 25, 3, 8, 12, 624, .null, [])],
  [(66, .iload_n 1, 1, 0, 0, 0, .null, []), (67, .iaload, 1, 0, 0, 0, .null, []), (68, .baload, 1, 0, 0, 0, .null, []), (69, .ifCond .eq 32, 3, 101, 0, 0, .null, []), (72, .aload_n 0, 1, 0, 0, 0, .null, []), (73, .aload_n 0, 1, 0, 0, 0, .null, []), (74, .getfield 22, 3, 8, 11, 623, .null, []), (77, .iload_n 1, 1, 0, 0, 0, .null, []), (78, .iaload, 1, 0, 0, 0, .null, []), (79, .aload_n 0, 1, 0, 0, 0, .null, [])],
  [(80, .getfield 25, 3, 8, 12, 624, .null, []), (83, .iload_n 1, 1, 0, 0, 0, .null, []), (84, .iaload, 1, 0, 0, 0, .null, []), (85, .invokevirtual 253, 3, 156, 2, 886, .ref 8, []), (88, .aload_n 0, 1, 0, 0, 0, .null, []), (89, .aload_n 0, 1, 0, 0, 0, .null, []), (90, .getfield 22, 3, 8, 11, 623, .null, []), (93, .iload_n 1, 1, 0, 0, 0, .null, []), (94, .iaload, 1, 0, 0, 0, .null, []), (95, .invokevirtual 250, 3, 155, 1, 880, .ref 8, [])],
  [(98, .goto (-40), 3, 58, 0, 0, .null, []), (101, .iconst 0, 1, 0, 0, 0, .int 0, []), (102, .istore_n 3, 1, 0, 0, 0, .null, []), (103, .iconst 0, 1, 0, 0, 0, .int 0, []), (104, .istore 4, 2, 0, 0, 0, .null, []), (106, .iload 4, 2, 0, 0, 0, .null, []), (108, .aload_n 0, 1, 0, 0, 0, .null, []), (109, .getfield 159, 3, 8, 10, 622, .null, [])],
  [(112, .if_icmp .ge 32, 3, 144, 0, 0, .null, []), (115, .aload_n 0, 1, 0, 0, 0, .null, []), (116, .iload 4, 2, 0, 0, 0, .null, []), (118, .invokevirtual 257, 3, 157, 1, 889, .ref 8, []), (121, .ifCond .ne 6, 3, 127, 0, 0, .null, []), (124, .goto 14, 3, 138, 0, 0, .null, []), (127, .iload_n 3, 1, 0, 0, 0, .null, [])],
  [(128, .iload_n 2, 1, 0, 0, 0, .null, []), (129, .if_icmp .ne 6, 3, 135, 0, 0, .null, []), (132, .iload 4, 2, 0, 0, 0, .null, []), (134, .ireturn, 1, 0, 0, 0, .null, []), (135, .iinc 3 1, 3, 0, 0, 0, .int 1, []), (138, .iinc 4 1, 3, 0, 0, 0, .int 1, []), (141, .goto (-35), 3, 106, 0, 0, .null, [])],
  [(144, .iload_n 2, 1, 0, 0, 0, .null, []), (145, .iconst (-1), 1, 0, 0, 0, .int (-1), []), (146, .if_icmp .ne 7, 3, 153, 0, 0, .null, []), (149, .iload_n 3, 1, 0, 0, 0, .null, []), (150, .goto 5, 3, 155, 0, 0, .null, []), (153, .bipush (-2), 2, 0, 0, 0, .int (-2), []), (155, .ireturn, 1, 0, 0, 0, .null, [])]]
def ia_m_X8_cut : ia_M := ("OffsetBookModel", ⟨"OffsetBookModel", "cut", "(II)I"⟩, prog_10_method_63_code, 5, (some .int), 2, ia_k_X8_cut, (879, 82, 877, 878), (3, 68))
def ia_k_X8_pin : List (List ia_E) := [[(0, .iload_n 1, 1, 0, 0, 0, .null, []), (1, .i2l, 1, 0, 0, 0, .null, []), (2, .lconst 0, 1, 0, 0, 0, .long 0, []), (3, .lconst 1, 1, 0, 0, 0, .long 1, []), (4, .invokestatic 94, 3, 103, 3, 686, .null, []), (7, .ifCond .eq 23, 3, 30, 0, 0, .null, []), (10, .iload_n 2, 1, 0, 0, 0, .null, []), (11, .i2l, 1, 0, 0, 0, .null, []), (12, .lconst 0, 1, 0, 0, 0, .long 0, []), (13, .ldc2_w 260, 3, 0, 0, 896, .long 3, [])],
  [(16, .invokestatic 94, 3, 103, 3, 686, .null, []), (19, .ifCond .eq 11, 3, 30, 0, 0, .null, []), (22, .aload_n 0, 1, 0, 0, 0, .null, []), (23, .iload_n 3, 1, 0, 0, 0, .null, []), (24, .invokevirtual 184, 3, 118, 1, 754, .ref 8, []), (27, .ifCond .ne 5, 3, 32, 0, 0, .null, []), (30, .iconst (-1), 1, 0, 0, 0, .int (-1), []), (31, .ireturn, 1, 0, 0, 0, .null, [])],
  [(32, .aload_n 0, 1, 0, 0, 0, .null, []), (33, .getfield 25, 3, 8, 12, 624, .null, []), (36, .iload_n 3, 1, 0, 0, 0, .null, []), (37, .iaload, 1, 0, 0, 0, .null, []), (38, .ifCond .ne 7, 3, 45, 0, 0, .null, []), (41, .iconst 0, 1, 0, 0, 0, .int 0, []), (42, .goto 4, 3, 46, 0, 0, .null, []), (45, .iconst 1, 1, 0, 0, 0, .int 1, []), (46, .istore 4, 2, 0, 0, 0, .null, [])],
  [(48, .aload_n 0, 1, 0, 0, 0, .null, []), (49, .getfield 78, 3, 8, 31, 643, .null, []), (52, .iload_n 1, 1, 0, 0, 0, .null, []), (53, .iaload, 1, 0, 0, 0, .null, []), (54, .iconst (-1), 1, 0, 0, 0, .int (-1), []), (55, .if_icmp .eq 17, 3, 72, 0, 0, .null, []), (58, .aload_n 0, 1, 0, 0, 0, .null, []), (59, .getfield 78, 3, 8, 31, 643, .null, []), (62, .iload_n 1, 1, 0, 0, 0, .null, []), (63, .iaload, 1, 0, 0, 0, .null, [])],
  [(64, .iload 4, 2, 0, 0, 0, .null, []), (66, .if_icmp .eq 6, 3, 72, 0, 0, .null, []), (69, .bipush (-2), 2, 0, 0, 0, .int (-2), []), (71, .ireturn, 1, 0, 0, 0, .null, []), (72, .aload_n 0, 1, 0, 0, 0, .null, []), (73, .getfield 78, 3, 8, 31, 643, .null, []), (76, .iload_n 1, 1, 0, 0, 0, .null, []), (77, .iload 4, 2, 0, 0, 0, .null, []), (79, .iastore, 1, 0, 0, 0, .null, [])],
  [(80, .aload_n 0, 1, 0, 0, 0, .null, []), (81, .getfield 81, 3, 8, 32, 644, .null, []), (84, .iconst 4, 1, 0, 0, 0, .int 4, []), (85, .iload_n 1, 1, 0, 0, 0, .null, []), (86, .imul, 1, 0, 0, 0, .null, []), (87, .iload_n 2, 1, 0, 0, 0, .null, []), (88, .iadd, 1, 0, 0, 0, .null, []), (89, .iload_n 3, 1, 0, 0, 0, .null, []), (90, .iastore, 1, 0, 0, 0, .null, []), (91, .iload 4, 2, 0, 0, 0, .null, []), (93, .ireturn, 1, 0, 0, 0, .null, [])]]
def ia_m_X8_pin : ia_M := ("OffsetBookModel", ⟨"OffsetBookModel", "pin", "(III)I"⟩, prog_10_method_64_code, 5, (some .int), 3, ia_k_X8_pin, (895, 82, 893, 894), (1, 25))
def ia_k_X8_pinned : List (List ia_E) := [[(0, .iload_n 1, 1, 0, 0, 0, .null, []), (1, .i2l, 1, 0, 0, 0, .null, []), (2, .lconst 0, 1, 0, 0, 0, .long 0, []), (3, .lconst 1, 1, 0, 0, 0, .long 1, []), (4, .invokestatic 94, 3, 103, 3, 686, .null, []), (7, .ifCond .eq 28, 3, 35, 0, 0, .null, []), (10, .iload_n 2, 1, 0, 0, 0, .null, []), (11, .i2l, 1, 0, 0, 0, .null, []), (12, .lconst 0, 1, 0, 0, 0, .long 0, []), (13, .ldc2_w 260, 3, 0, 0, 896, .long 3, [])],
  [(16, .invokestatic 94, 3, 103, 3, 686, .null, []), (19, .ifCond .eq 16, 3, 35, 0, 0, .null, []), (22, .aload_n 0, 1, 0, 0, 0, .null, []), (23, .getfield 81, 3, 8, 32, 644, .null, []), (26, .iconst 4, 1, 0, 0, 0, .int 4, []), (27, .iload_n 1, 1, 0, 0, 0, .null, []), (28, .imul, 1, 0, 0, 0, .null, []), (29, .iload_n 2, 1, 0, 0, 0, .null, []), (30, .iadd, 1, 0, 0, 0, .null, []), (31, .iaload, 1, 0, 0, 0, .null, [])],
  [(32, .goto 4, 3, 36, 0, 0, .null, []), (35, .iconst (-1), 1, 0, 0, 0, .int (-1), []), (36, .ireturn, 1, 0, 0, 0, .null, [])]]
def ia_m_X8_pinned : ia_M := ("OffsetBookModel", ⟨"OffsetBookModel", "pinned", "(II)I"⟩, prog_10_method_65_code, 3, (some .int), 2, ia_k_X8_pinned, (900, 82, 898, 899), (1, 25))
def ia_k_X8_groups : List (List ia_E) := [[(0, .iconst 0, 1, 0, 0, 0, .int 0, []), (1, .istore_n 1, 1, 0, 0, 0, .null, []), (2, .iconst 0, 1, 0, 0, 0, .int 0, []), (3, .istore_n 2, 1, 0, 0, 0, .null, []), (4, .iload_n 2, 1, 0, 0, 0, .null, []), (5, .aload_n 0, 1, 0, 0, 0, .null, []), (6, .getfield 84, 3, 8, 4, 616, .null, []), (9, .if_icmp .ge 27, 3, 36, 0, 0, .null, []), (12, .iload_n 1, 1, 0, 0, 0, .null, []), (13, .aload_n 0, 1, 0, 0, 0, .null, []), (14, .getfield 36, 3, 8, 16, 628, .null, [])],
  [(17, .iload_n 2, 1, 0, 0, 0, .null, []), (18, .iaload, 1, 0, 0, 0, .null, []), (19, .iload_n 2, 1, 0, 0, 0, .null, []), (20, .if_icmp .ne 7, 3, 27, 0, 0, .null, []), (23, .iconst 1, 1, 0, 0, 0, .int 1, []), (24, .goto 4, 3, 28, 0, 0, .null, []), (27, .iconst 0, 1, 0, 0, 0, .int 0, []), (28, .iadd, 1, 0, 0, 0, .null, []), (29, .istore_n 1, 1, 0, 0, 0, .null, []), (30, .iinc 2 1, 3, 0, 0, 0, .int 1, [])],
  [(33, .goto (-29), 3, 4, 0, 0, .null, []), (36, .iload_n 1, 1, 0, 0, 0, .null, []), (37, .ireturn, 1, 0, 0, 0, .null, [])]]
def ia_m_X8_groups : ia_M := ("OffsetBookModel", ⟨"OffsetBookModel", "groups", "()I"⟩, prog_10_method_66_code, 3, (some .int), 0, ia_k_X8_groups, (907, 82, 906, 69), (0, 0))
def ia_k_X8_knownTwos : List (List ia_E) := [[(0, .iconst 0, 1, 0, 0, 0, .int 0, []), (1, .istore_n 1, 1, 0, 0, 0, .null, []), (2, .iconst 0, 1, 0, 0, 0, .int 0, []), (3, .istore_n 2, 1, 0, 0, 0, .null, []), (4, .iload_n 2, 1, 0, 0, 0, .null, []), (5, .aload_n 0, 1, 0, 0, 0, .null, []), (6, .getfield 84, 3, 8, 4, 616, .null, []), (9, .if_icmp .ge 45, 3, 54, 0, 0, .null, []), (12, .iconst 0, 1, 0, 0, 0, .int 0, []), (13, .istore_n 3, 1, 0, 0, 0, .null, []), (14, .iload_n 3, 1, 0, 0, 0, .null, []), (15, .iload_n 2, 1, 0, 0, 0, .null, [])],
  [(16, .if_icmp .ge 32, 3, 48, 0, 0, .null, []), (19, .iload_n 1, 1, 0, 0, 0, .null, []), (20, .aload_n 0, 1, 0, 0, 0, .null, []), (21, .getfield 36, 3, 8, 16, 628, .null, []), (24, .iload_n 2, 1, 0, 0, 0, .null, []), (25, .iaload, 1, 0, 0, 0, .null, []), (26, .aload_n 0, 1, 0, 0, 0, .null, []), (27, .getfield 36, 3, 8, 16, 628, .null, []), (30, .iload_n 3, 1, 0, 0, 0, .null, []), (31, .iaload, 1, 0, 0, 0, .null, [])],
  [(32, .if_icmp .ne 7, 3, 39, 0, 0, .null, []), (35, .iconst 1, 1, 0, 0, 0, .int 1, []), (36, .goto 4, 3, 40, 0, 0, .null, []), (39, .iconst 0, 1, 0, 0, 0, .int 0, []), (40, .iadd, 1, 0, 0, 0, .null, []), (41, .istore_n 1, 1, 0, 0, 0, .null, []), (42, .iinc 3 1, 3, 0, 0, 0, .int 1, []), (45, .goto (-31), 3, 14, 0, 0, .null, [])],
  [(48, .iinc 2 1, 3, 0, 0, 0, .int 1, []), (51, .goto (-47), 3, 4, 0, 0, .null, []), (54, .iload_n 1, 1, 0, 0, 0, .null, []), (55, .ireturn, 1, 0, 0, 0, .null, [])]]
def ia_m_X8_knownTwos : ia_M := ("OffsetBookModel", ⟨"OffsetBookModel", "knownTwos", "()I"⟩, prog_10_method_67_code, 4, (some .int), 0, ia_k_X8_knownTwos, (910, 82, 909, 70), (0, 0))
def ia_k_X8_hanging : List (List ia_E) := [[(0, .iconst 0, 1, 0, 0, 0, .int 0, []), (1, .istore_n 1, 1, 0, 0, 0, .null, []), (2, .iconst 0, 1, 0, 0, 0, .int 0, []), (3, .istore_n 2, 1, 0, 0, 0, .null, []), (4, .iload_n 2, 1, 0, 0, 0, .null, []), (5, .aload_n 0, 1, 0, 0, 0, .null, []), (6, .getfield 159, 3, 8, 10, 622, .null, []), (9, .if_icmp .ge 25, 3, 34, 0, 0, .null, []), (12, .iload_n 1, 1, 0, 0, 0, .null, []), (13, .aload_n 0, 1, 0, 0, 0, .null, []), (14, .iload_n 2, 1, 0, 0, 0, .null, []), (15, .invokevirtual 218, 3, 134, 1, 787, .ref 8, [])],
  [(18, .ifCond .le 7, 3, 25, 0, 0, .null, []), (21, .iconst 1, 1, 0, 0, 0, .int 1, []), (22, .goto 4, 3, 26, 0, 0, .null, []), (25, .iconst 0, 1, 0, 0, 0, .int 0, []), (26, .iadd, 1, 0, 0, 0, .null, []), (27, .istore_n 1, 1, 0, 0, 0, .null, []), (28, .iinc 2 1, 3, 0, 0, 0, .int 1, []), (31, .goto (-27), 3, 4, 0, 0, .null, [])],
  [(34, .iload_n 1, 1, 0, 0, 0, .null, []), (35, .ireturn, 1, 0, 0, 0, .null, [])]]
def ia_m_X8_hanging : ia_M := ("OffsetBookModel", ⟨"OffsetBookModel", "hanging", "()I"⟩, prog_10_method_68_code, 3, (some .int), 0, ia_k_X8_hanging, (913, 82, 912, 71), (3, 69))
def ia_k_X8_count : List (List ia_E) := [[(0, .iload_n 1, 1, 0, 0, 0, .null, []), (1, .tableswitch 106 0 11 #[63, 68, 73, 73, 73, 73, 73, 81, 86, 91, 96, 101], 63, 107, 0, 0, .null, [(0, 64), (1, 69), (2, 74), (3, 74), (4, 74), (5, 74), (6, 74), (7, 82), (8, 87), (9, 92), (10, 97), (11, 102)])],
  [],
  [],
  [],
  [(64, .aload_n 0, 1, 0, 0, 0, .null, []), (65, .getfield 84, 3, 8, 4, 616, .null, []), (68, .ireturn, 1, 0, 0, 0, .null, []), (69, .aload_n 0, 1, 0, 0, 0, .null, []), (70, .getfield 159, 3, 8, 10, 622, .null, []), (73, .ireturn, 1, 0, 0, 0, .null, []), (74, .aload_n 0, 1, 0, 0, 0, .null, []), (75, .iload_n 1, 1, 0, 0, 0, .null, []), (76, .iconst 2, 1, 0, 0, 0, .int 2, []), (77, .isub, 1, 0, 0, 0, .null, []), (78, .invokevirtual 181, 3, 120, 1, 760, .ref 8, [])],
  [(81, .ireturn, 1, 0, 0, 0, .null, []), (82, .aload_n 0, 1, 0, 0, 0, .null, []), (83, .invokevirtual 262, 3, 161, 0, 905, .ref 8, []), (86, .ireturn, 1, 0, 0, 0, .null, []), (87, .aload_n 0, 1, 0, 0, 0, .null, []), (88, .invokevirtual 265, 3, 162, 0, 908, .ref 8, []), (91, .ireturn, 1, 0, 0, 0, .null, []), (92, .aload_n 0, 1, 0, 0, 0, .null, []), (93, .invokevirtual 268, 3, 163, 0, 911, .ref 8, [])],
  [(96, .ireturn, 1, 0, 0, 0, .null, []), (97, .aload_n 0, 1, 0, 0, 0, .null, []), (98, .getfield 194, 3, 8, 22, 634, .null, []), (101, .ireturn, 1, 0, 0, 0, .null, []), (102, .aload_n 0, 1, 0, 0, 0, .null, []), (103, .getfield 91, 3, 8, 1, 613, .null, []), (106, .ireturn, 1, 0, 0, 0, .null, []), (107, .iconst (-1), 1, 0, 0, 0, .int (-1), []), (108, .ireturn, 1, 0, 0, 0, .null, [])]]
def ia_m_X8_count : ia_M := ("OffsetBookModel", ⟨"OffsetBookModel", "count", "(I)I"⟩, prog_10_method_69_code, 2, (some .int), 1, ia_k_X8_count, (904, 82, 902, 903), (4, 91))
def ia_k_Jxe99ae_isNaN_b9ae7 : List (List ia_E) := [[(0, .dload_n 0, 1, 0, 0, 0, .null, []), (1, .dload_n 0, 1, 0, 0, 0, .null, []), (2, .dcmp .l, 1, 0, 0, 0, .null, []), (3, .ifCond .eq 7, 3, 10, 0, 0, .null, []), (6, .iconst 1, 1, 0, 0, 0, .int 1, []), (7, .goto 4, 3, 11, 0, 0, .null, []), (10, .iconst 0, 1, 0, 0, 0, .int 0, []), (11, .ireturn, 1, 1, 0, 0, .null, [])]]
def ia_m_Jxe99ae_isNaN_b9ae7 : ia_M := ("java/lang/Double", ⟨"java/lang/Double", "isNaN", "(D)Z"⟩, prog_11_method_6_code, 2, (some .boolean), 1, ia_k_Jxe99ae_isNaN_b9ae7, (850, 86, 849, 0), (0, 0))
def ia_k_Jxe99ae_doubleToLongBits_ccdee : List (List ia_E) := [[(0, .dload_n 0, 1, 0, 0, 0, .null, []), (1, .invokestatic 122, 3, 171, 1, 848, .null, []), (4, .ifCond .ne 8, 3, 12, 0, 0, .null, []), (7, .dload_n 0, 1, 0, 0, 0, .null, []), (8, .invokestatic 134, 3, 0, 1, 851, .null, [(0, 853), (0, 852), (0, 86)]), (11, .lreturn, 1, 0, 0, 0, .null, []), (12, .ldc2_w 137, 3, 0, 0, 854, .long 9221120237041090560, []), (15, .lreturn, 1, 0, 0, 0, .null, [])]]
def ia_m_Jxe99ae_doubleToLongBits_ccdee : ia_M := ("java/lang/Double", ⟨"java/lang/Double", "doubleToLongBits", "(D)J"⟩, prog_11_method_23_code, 2, (some .long), 1, ia_k_Jxe99ae_doubleToLongBits_ccdee, (847, 86, 846, 0), (1, 23))
def ia_k_J7_fill_53178 : List (List ia_E) := [[(0, .iconst 0, 1, 0, 0, 0, .int 0, []), (1, .istore_n 2, 1, 0, 0, 0, .null, []), (2, .aload_n 0, 1, 0, 0, 0, .null, []), (3, .arraylength, 1, 0, 0, 0, .null, []), (4, .istore_n 3, 1, 0, 0, 0, .null, []), (5, .iload_n 2, 1, 0, 0, 0, .null, []), (6, .iload_n 3, 1, 0, 0, 0, .null, []), (7, .if_icmp .ge 13, 3, 20, 0, 0, .null, []), (10, .aload_n 0, 1, 0, 0, 0, .null, []), (11, .iload_n 2, 1, 0, 0, 0, .null, []), (12, .iload_n 1, 1, 0, 0, 0, .null, []), (13, .iastore, 1, 0, 0, 0, .null, []), (14, .iinc 2 1, 3, 0, 0, 0, .int 1, [])],
  [(17, .goto (-12), 3, 5, 0, 0, .null, []), (20, .return_, 1, 0, 0, 0, .null, [])]]
def ia_m_J7_fill_53178 : ia_M := ("java/util/Arrays", ⟨"java/util/Arrays", "fill", "([II)V"⟩, prog_15_method_103_code, 4, none, 2, ia_k_J7_fill_53178, (148, 79, 147, 0), (0, 0))
def ia_MT : List ia_M := [ia_m_X0_add, ia_m_X0_takeBackLast, ia_m_X1_judge, ia_m_X1_weigh, ia_m_X1_join, ia_m_X1_move, ia_m_X1_highest, ia_m_X1_lowest, ia_m_X1_sizeOf, ia_m_X1_countAhead, ia_m_X1_meanOf, ia_m_X1_countTwos, ia_m_X1_countKnownTwos, ia_m_X1_countGroups, ia_m_X1_countOf, ia_m_X2_isRoom, ia_m_X2_put, ia_m_X2_at, ia_m_X3_readText, ia_m_X3_readLoneStatement, ia_m_X3_begin, ia_m_X3_fail, ia_m_X3_pass, ia_m_X3_isFull, ia_m_X3_readStatement, ia_m_X3_readRightSide, ia_m_X3_readAmount, ia_m_X3_readNumber, ia_m_X3_readName, ia_m_X4_append, ia_m_X4_here, ia_m_X4_isLetterHere, ia_m_X4_passBlanks, ia_m_X4_passLetters, ia_m_X4_passDigits, ia_m_X4_numberAt, ia_m_X5_find, ia_m_X5_isNameAt, ia_m_X5_draftName, ia_m_X5_draftStatement, ia_m_X5_becomeLike, ia_m_X6_weave, ia_m_X6_sortWays, ia_m_X6_isStanding, ia_m_X6_forgetReached, ia_m_X6_mark, ia_m_X6_reachFrom, ia_m_X6_hasRoom, ia_m_X6_findChain, ia_m_X6_firstNearer, ia_m_X6_clearTimes, ia_m_X6_countChain, ia_m_X6_mostOften, ia_m_X6_findCut, ia_m_X6_isReached, ia_m_X6_flowAlong, ia_m_X6_growTrees, ia_m_X6_lowerEnd, ia_m_X6_above, ia_m_X6_markRing, ia_m_X6_addUpBelow, ia_m_X6_fillRely, ia_m_X6_relyOn, ia_m_X7_feed, ia_m_X7_end, ia_m_X7_tell, ia_m_X7_test, ia_m_X7_retract, ia_m_X7_restore, ia_m_X7_undo, ia_m_X7_statement, ia_m_X7_amount, ia_m_X7_gauge, ia_m_X7_letter, ia_m_X7_difference, ia_m_X7_offset, ia_m_X7_group, ia_m_X7_order, ia_m_X7_span, ia_m_X7_mean, ia_m_X7_twos, ia_m_X7_chain, ia_m_X7_cut, ia_m_X7_blame, ia_m_X7_pin, ia_m_X7_pinned, ia_m_X7_image, ia_m_X7_back, ia_m_X7_count, ia_m_X7_isStatement, ia_m_X7_isGauge, ia_m_X7_judgeAnew, ia_m_X7_turn, ia_m_X7_relyOn, ia_m_X7_hangs, ia_m_X7_countHanging, ia_m_X7_bitsOf, ia_m_X8_isIn, ia_m_X8_feed, ia_m_X8_end, ia_m_X8_fails, ia_m_X8_byteAt, ia_m_X8_next, ia_m_X8_isLetter, ia_m_X8_isDigit, ia_m_X8_takes, ia_m_X8_readsLetters, ia_m_X8_isNamed, ia_m_X8_gaugeNamed, ia_m_X8_readsName, ia_m_X8_readsNumber, ia_m_X8_readsStatement, ia_m_X8_readsAll, ia_m_X8_tell, ia_m_X8_test, ia_m_X8_judgedAs, ia_m_X8_joins, ia_m_X8_judges, ia_m_X8_isStatement, ia_m_X8_isStanding, ia_m_X8_manyOf, ia_m_X8_standing, ia_m_X8_turns, ia_m_X8_retract, ia_m_X8_restore, ia_m_X8_keeps, ia_m_X8_goesBackTo, ia_m_X8_keepsAct, ia_m_X8_keepsTold, ia_m_X8_undo, ia_m_X8_image, ia_m_X8_back, ia_m_X8_reaches, ia_m_X8_sizeOf, ia_m_X8_rely, ia_m_X8_statement, ia_m_X8_amount, ia_m_X8_gauge, ia_m_X8_isGauge, ia_m_X8_letter, ia_m_X8_difference, ia_m_X8_offset, ia_m_X8_group, ia_m_X8_isAhead, ia_m_X8_laysOrder, ia_m_X8_order, ia_m_X8_span, ia_m_X8_mean, ia_m_X8_twos, ia_m_X8_laysFar, ia_m_X8_laysChain, ia_m_X8_isStep, ia_m_X8_chain, ia_m_X8_blame, ia_m_X8_canGo, ia_m_X8_spreads, ia_m_X8_laysPath, ia_m_X8_isCut, ia_m_X8_cut, ia_m_X8_pin, ia_m_X8_pinned, ia_m_X8_groups, ia_m_X8_knownTwos, ia_m_X8_hanging, ia_m_X8_count, ia_m_Jxe99ae_isNaN_b9ae7, ia_m_Jxe99ae_doubleToLongBits_ccdee, ia_m_J7_fill_53178]
end
section
/-- the steady world's cells -/
def ia_Sh : List ia_C := [.inr (.inl (7, [.inl 1, .inl 4, .inl 25, .inl 29, .inl 43, .inl 47, .inl 50, .inl 51])), .inr (.inl (3, [.inl 2, .inr false, .inr false, .inr false])), .inr (.inl (4, [.inl 3, .inr false, .inr false])), .inl (.byte, 300), .inr (.inl (5, [.inl 5, .inl 6, .inl 7, .inl 8, .inl 9, .inl 10, .inr false, .inr false])), .inl (.byte, 246), .inl (.int, 41), .inl (.int, 120), .inl (.int, 120), .inl (.long, 120), .inl (.boolean, 120), .inr (.inl (5, [.inl 12, .inl 13, .inl 14, .inl 15, .inl 16, .inl 17, .inr false, .inr false])), .inl (.byte, 246), .inl (.int, 41), .inl (.int, 120), .inl (.int, 120), .inl (.long, 120), .inl (.boolean, 120), .inr (.inl (5, [.inl 19, .inl 20, .inl 21, .inl 22, .inl 23, .inl 24, .inr false, .inr false])), .inl (.byte, 246), .inl (.int, 41), .inl (.int, 120), .inl (.int, 120), .inl (.long, 120), .inl (.boolean, 120), .inr (.inl (1, [.inl 26, .inl 27, .inl 28])), .inl (.int, 120), .inl (.int, 41), .inl (.long, 41), .inr (.inl (6, [.inl 30, .inl 31, .inl 32, .inl 33, .inl 34, .inl 35, .inl 36, .inr false, .inl 37, .inl 38, .inl 39, .inl 40, .inl 41, .inl 42])), .inl (.int, 240), .inl (.int, 240), .inl (.int, 42), .inl (.int, 41), .inl (.int, 120), .inl (.int, 120), .inl (.int, 41), .inl (.int, 41), .inl (.int, 41), .inl (.int, 120), .inl (.boolean, 41), .inl (.int, 41), .inl (.int, 120), .inr (.inl (0, [.inl 44, .inl 45, .inl 46, .inr false, .inr false])), .inl (.int, 20), .inl (.int, 20), .inl (.int, 20), .inr (.inl (2, [.inl 48, .inl 49])), .inl (.int, 8), .inl (.int, 2), .inr (.inr ("OffsetBook$Told", [11, 18])), .inl (.boolean, 2), .inr (.inl (8, [.inl 53, .inr false, .inr false, .inr false, .inr false, .inl 54, .inr false, .inl 55, .inr false, .inr true, .inr false, .inl 56, .inl 57, .inl 58, .inl 59, .inr false, .inl 60, .inl 61, .inl 62, .inl 63, .inl 64, .inl 65, .inr false, .inl 66, .inl 67, .inl 68, .inl 69, .inl 70, .inl 71, .inl 72, .inl 73, .inl 74, .inl 75])), .inl (.byte, 300), .inl (.int, 287), .inl (.int, 7), .inl (.int, 132), .inl (.int, 132), .inl (.long, 132), .inl (.boolean, 132), .inl (.int, 41), .inl (.long, 41), .inl (.int, 132), .inl (.int, 14278), .inl (.long, 2640), .inl (.boolean, 2), .inl (.boolean, 41), .inl (.int, 41), .inl (.int, 41), .inl (.int, 41), .inl (.int, 41), .inl (.int, 132), .inl (.int, 132), .inl (.int, 41), .inl (.int, 2), .inl (.int, 8)]
theorem ia_Sh_ok : ia_Sok ia_Sh ia_ty := by
  have key : (ia_Sh.zipIdx.all (fun q => match q.1 with
    | .inr (.inl (ci, ks)) => ks.zipIdx.all (fun k => match k.1 with
      | .inr false => decide (ia_ty ci k.2 = .int)
      | .inr true => decide (ia_ty ci k.2 = .long)
      | _ => true)
    | .inr (.inr (_, l)) => decide (l.length < 2 ^ 31)
    | .inl (_, n) => decide (n < 2 ^ 31))) = true := by decide +kernel
  have at_mem : ∀ (Sh : List ia_C) (x k0 : Nat) (c : ia_C), ia_at? Sh x = some c → (c, k0 + x) ∈ Sh.zipIdx k0 := by
    intro Sh
    induction Sh with
    | nil => intro x k0 c h; cases h
    | cons d t ih =>
      intro x k0 c h
      rw [List.zipIdx_cons]
      cases x with
      | zero => cases h; exact List.mem_cons_self
      | succ x =>
        have := ih x (k0 + 1) c h
        rw [show k0 + 1 + x = k0 + (x + 1) by omega] at this
        exact List.mem_cons_of_mem _ this
  have kind_mem : ∀ (ks : List (Nat ⊕ Bool)) (x k0 : Nat) (c : Nat ⊕ Bool), ia_kind ks x = some c → (c, k0 + x) ∈ ks.zipIdx k0 := by
    intro Sh
    induction Sh with
    | nil => intro x k0 c h; cases h
    | cons d t ih =>
      intro x k0 c h
      rw [List.zipIdx_cons]
      cases x with
      | zero => cases h; exact List.mem_cons_self
      | succ x =>
        have := ih x (k0 + 1) c h
        rw [show k0 + 1 + x = k0 + (x + 1) by omega] at this
        exact List.mem_cons_of_mem _ this
  rw [List.all_eq_true] at key
  refine ⟨fun x ci ks b hx => ⟨fun hk => ?_, fun hk => ?_⟩, fun x C l hx => ?_, fun x ty n hx => ?_⟩
  · have h1 := key _ (at_mem _ x 0 _ hx)
    simp only [List.all_eq_true] at h1
    have h2 := h1 _ (kind_mem _ b 0 _ hk)
    rw [Nat.zero_add] at h2
    exact of_decide_eq_true h2
  · have h1 := key _ (at_mem _ x 0 _ hx)
    simp only [List.all_eq_true] at h1
    have h2 := h1 _ (kind_mem _ b 0 _ hk)
    rw [Nat.zero_add] at h2
    exact of_decide_eq_true h2
  · exact of_decide_eq_true (key _ (at_mem _ x 0 _ hx))
  · exact of_decide_eq_true (key _ (at_mem _ x 0 _ hx))
/-- methods over the steady world: y answers, with Z of its answer and the heap behind it -/
abbrev V_ (y : Nat) (as : List Value) (h : ia_H) (Z : Option Value → ia_H → Prop) : Prop := ia_V ia_Sh ia_MT y as h Z
abbrev R_ (K : List (List ia_E)) (Z : Option Value → ia_H → Prop) (s : ia_S) : Prop := ia_Run ia_Sh K (ia_Ev ia_Sh ia_MT) Z s
end
section
/-! small words for the walks -/
theorem nI_lt41 {g : Nat} (h : g < 2 ^ 31) : nI g < 41 ↔ g < 41 := nI_ltI (b := 41) h (by decide)
theorem nI_lt120 {g : Nat} (h : g < 2 ^ 31) : nI g < 120 ↔ g < 120 := nI_ltI (b := 120) h (by decide)
theorem nI_inj {a b : Nat} (ha : a < 2 ^ 31) (hb : b < 2 ^ 31) (h : nI a = nI b) : a = b := (nI_eq ha hb).mp h
/-- how many of the first n -/
def ct (p : Nat → Bool) : Nat → Nat
  | 0 => 0
  | n + 1 => ct p n + (bif p n then 1 else 0)
theorem ct_le (p : Nat → Bool) : ∀ n, ct p n ≤ n
  | 0 => Nat.le_refl 0
  | n + 1 => by
    have := ct_le p n
    simp only [ct]
    cases p n <;> simp <;> omega
theorem ct_t {p : Nat → Bool} {n : Nat} (h : p n = true) : ct p (n + 1) = ct p n + 1 := by simp [ct, h]
theorem ct_f {p : Nat → Bool} {n : Nat} (h : p n = false) : ct p (n + 1) = ct p n := by simp [ct, h]
theorem ct_congr {p q : Nat → Bool} : ∀ {n : Nat}, (∀ k, k < n → p k = q k) → ct p n = ct q n
  | 0, _ => rfl
  | n + 1, h => by rw [ct, ct, ct_congr (fun k hk => h k (by omega)), h n (by omega)]
/-- behind the last one that counts nothing more counts -/
theorem ct_stop {p : Nat → Bool} {m : Nat} : ∀ {n : Nat}, m ≤ n → (∀ k, m ≤ k → k < n → p k = false) → ct p n = ct p m
  | 0, h, _ => by rw [show m = 0 by omega]
  | n + 1, h, hp => by
    by_cases he : m = n + 1
    · rw [he]
    · rw [ct_f (hp n (by omega) (by omega))]
      exact ct_stop (by omega) (fun k h1 h2 => hp k h1 (by omega))
abbrev Z_ (v : Value) (h : ia_H) : Option Value → ia_H → Prop := fun r h' => r = some v ∧ h' = h
/-- a call whose answer and heap are known -/
theorem ia_callE {Sh : List ia_C} {MT : List ia_M} {y : Nat} {as : List Value} {h : ia_H} {r0 : Option Value} {h0 : ia_H} (hV : ia_V Sh MT y as h (fun r h' => r = r0 ∧ h' = h0)) : ia_Ev Sh MT y as h r0 h0 := by
  obtain ⟨r, h', hev, h1, h2⟩ := hV
  rw [← h1, ← h2]
  exact hev
abbrev Zi_ (v : Int32) (h : ia_H) : Option Value → ia_H → Prop := fun r h' => r = some (.int v) ∧ h' = h
abbrev Zl_ (v : Int64) (h : ia_H) : Option Value → ia_H → Prop := fun r h' => r = some (.long v) ∧ h' = h
/-- a call that changes nothing: its answer gets a name -/
theorem ia_callN {α : Type} {f : α → Value} {Sh : List ia_C} {MT : List ia_M} {y : Nat} {as : List Value} {h : ia_H} {x : α} (hV : ia_V Sh MT y as h (fun r h' => r = some (f x) ∧ h' = h)) : ∃ v, v = x ∧ ia_Ev Sh MT y as h (some (f v)) h := by
  obtain ⟨r, h', hev, h1, h2⟩ := hV
  refine ⟨x, rfl, ?_⟩
  rw [h1, h2] at hev
  exact hev
end
section
/-! The class's Groups: questions. L, O: least, offset -/
def gr_hi (L : Nat → Int32) (O : Nat → Int64) (x : Int32) : Nat → Int64
  | 0 => 0
  | n + 1 => if L n = x then (if O n < gr_hi L O x n then gr_hi L O x n else O n) else gr_hi L O x n
def gr_lo (L : Nat → Int32) (O : Nat → Int64) (x : Int32) : Nat → Int64
  | 0 => 0
  | n + 1 => if L n = x then (if O n < gr_lo L O x n then O n else gr_lo L O x n) else gr_lo L O x n
theorem l_highest (h : ia_H) (x : Int32) {Z : Option Value → ia_H → Prop} (hZ : Z (some (.long (gr_hi (h.1 27) (h.2 28) x 41))) h) : ∀ k g : Nat, g + k = 41 → R_ ia_k_X1_highest Z (5, [some (.ref 25), some (.int x), some (.long (gr_hi (h.1 27) (h.2 28) x g)), none, some (.int (nI g))], [], h) := by
  intro k
  induction k with
  | zero =>
    intro g hg
    rw [show g = 41 by omega]
    refine ia_walk (fun pc => Nat.beq pc 5) 50 (fun X hX => ?_)
    conv => whnf
    refine And.intro (fun c => ?_) (fun c => ?_)
    · exact absurd c (by decide)
    · conv => whnf
      exact hZ
  | succ k ih =>
    intro g hg
    refine ia_walk (fun pc => Nat.beq pc 5) 50 (fun X hX => ?_)
    conv => whnf
    refine And.intro (fun c => ?_) (fun c => ?_)
    · conv => whnf
      refine Exists.intro _ (And.intro (And.intro rfl (by omega)) ?_)
      conv => whnf
      refine And.intro (fun c2 => ?_) (fun c2 => ?_)
      · conv => whnf
        refine Exists.intro _ (And.intro (And.intro rfl (by omega)) ?_)
        conv => whnf
        rw [nI_1]
        have e : gr_hi (h.1 27) (h.2 28) x (g + 1) = if h.2 28 g < gr_hi (h.1 27) (h.2 28) x g then gr_hi (h.1 27) (h.2 28) x g else h.2 28 g := by rw [gr_hi, if_pos c2]
        rw [← e]
        exact hX _ (ih (g + 1) (by omega))
      · conv => whnf
        rw [nI_1]
        have e : gr_hi (h.1 27) (h.2 28) x (g + 1) = gr_hi (h.1 27) (h.2 28) x g := by rw [gr_hi, if_neg c2]
        rw [← e]
        exact hX _ (ih (g + 1) (by omega))
    · exact absurd ((nI_lt41 (by omega)).mpr (by omega)) c
theorem v_highest (h : ia_H) (x : Int32) : V_ 6 [.ref 25, .int x] h (Z_ (.long (gr_hi (h.1 27) (h.2 28) x 41)) h) := by
  refine ia_V_in ia_k_X1_highest [some (.ref 25), some (.int x), none, none, none] rfl rfl (Nat.le_of_ble_eq_true rfl) rfl ?_
  refine ia_walk (fun pc => Nat.beq pc 5) 50 (fun X hX => ?_)
  conv => whnf
  exact hX _ (l_highest h x ⟨rfl, rfl⟩ 41 0 rfl)
theorem l_lowest (h : ia_H) (x : Int32) {Z : Option Value → ia_H → Prop} (hZ : Z (some (.long (gr_lo (h.1 27) (h.2 28) x 41))) h) : ∀ k g : Nat, g + k = 41 → R_ ia_k_X1_lowest Z (5, [some (.ref 25), some (.int x), some (.long (gr_lo (h.1 27) (h.2 28) x g)), none, some (.int (nI g))], [], h) := by
  intro k
  induction k with
  | zero =>
    intro g hg
    rw [show g = 41 by omega]
    refine ia_walk (fun pc => Nat.beq pc 5) 50 (fun X hX => ?_)
    conv => whnf
    refine And.intro (fun c => ?_) (fun c => ?_)
    · exact absurd c (by decide)
    · conv => whnf
      exact hZ
  | succ k ih =>
    intro g hg
    refine ia_walk (fun pc => Nat.beq pc 5) 50 (fun X hX => ?_)
    conv => whnf
    refine And.intro (fun c => ?_) (fun c => ?_)
    · conv => whnf
      refine Exists.intro _ (And.intro (And.intro rfl (by omega)) ?_)
      conv => whnf
      refine And.intro (fun c2 => ?_) (fun c2 => ?_)
      · conv => whnf
        refine Exists.intro _ (And.intro (And.intro rfl (by omega)) ?_)
        conv => whnf
        rw [nI_1]
        have e : gr_lo (h.1 27) (h.2 28) x (g + 1) = if h.2 28 g < gr_lo (h.1 27) (h.2 28) x g then h.2 28 g else gr_lo (h.1 27) (h.2 28) x g := by rw [gr_lo, if_pos c2]
        rw [← e]
        exact hX _ (ih (g + 1) (by omega))
      · conv => whnf
        rw [nI_1]
        have e : gr_lo (h.1 27) (h.2 28) x (g + 1) = gr_lo (h.1 27) (h.2 28) x g := by rw [gr_lo, if_neg c2]
        rw [← e]
        exact hX _ (ih (g + 1) (by omega))
    · exact absurd ((nI_lt41 (by omega)).mpr (by omega)) c
theorem v_lowest (h : ia_H) (x : Int32) : V_ 7 [.ref 25, .int x] h (Z_ (.long (gr_lo (h.1 27) (h.2 28) x 41)) h) := by
  refine ia_V_in ia_k_X1_lowest [some (.ref 25), some (.int x), none, none, none] rfl rfl (Nat.le_of_ble_eq_true rfl) rfl ?_
  refine ia_walk (fun pc => Nat.beq pc 5) 50 (fun X hX => ?_)
  conv => whnf
  exact hX _ (l_lowest h x ⟨rfl, rfl⟩ 41 0 rfl)
theorem l_sizeOf (h : ia_H) (x : Int32) {Z : Option Value → ia_H → Prop} (hZ : Z (some (.int (nI (ct (fun j => decide (h.1 27 j = x)) 41)))) h) : ∀ k g : Nat, g + k = 41 → R_ ia_k_X1_sizeOf Z (4, [some (.ref 25), some (.int x), some (.int (nI (ct (fun j => decide (h.1 27 j = x)) g))), some (.int (nI g))], [], h) := by
  intro k
  induction k with
  | zero =>
    intro g hg
    rw [show g = 41 by omega]
    refine ia_walk (fun pc => Nat.beq pc 4) 50 (fun X hX => ?_)
    conv => whnf
    refine And.intro (fun c => ?_) (fun c => ?_)
    · exact absurd c (by decide)
    · conv => whnf
      exact hZ
  | succ k ih =>
    intro g hg
    refine ia_walk (fun pc => Nat.beq pc 4) 50 (fun X hX => ?_)
    conv => whnf
    refine And.intro (fun c => ?_) (fun c => ?_)
    · conv => whnf
      refine Exists.intro _ (And.intro (And.intro rfl (by omega)) ?_)
      conv => whnf
      refine And.intro (fun c2 => ?_) (fun c2 => ?_)
      · conv => whnf
        rw [nI_1, nI_1, ← ct_t (p := fun j => decide (h.1 27 j = x)) (decide_eq_true c2)]
        exact hX _ (ih (g + 1) (by omega))
      · conv => whnf
        rw [nI_1, ← ct_f (p := fun j => decide (h.1 27 j = x)) (decide_eq_false c2)]
        exact hX _ (ih (g + 1) (by omega))
    · exact absurd ((nI_lt41 (by omega)).mpr (by omega)) c
theorem v_sizeOf (h : ia_H) (x : Int32) : V_ 8 [.ref 25, .int x] h (Z_ (.int (nI (ct (fun j => decide (h.1 27 j = x)) 41))) h) := by
  refine ia_V_in ia_k_X1_sizeOf [some (.ref 25), some (.int x), none, none] rfl rfl (Nat.le_of_ble_eq_true rfl) rfl ?_
  refine ia_walk (fun pc => Nat.beq pc 4) 50 (fun X hX => ?_)
  conv => whnf
  exact hX _ (l_sizeOf h x ⟨rfl, rfl⟩ 41 0 rfl)
/-- j is ahead of a in the order of a's group -/
def gr_ah (L : Nat → Int32) (O : Nat → Int64) (a j : Nat) : Bool := decide (L j = L a) && (decide (O j < O a) || (decide (O j = O a) && decide (j < a)))
theorem l_countAhead (h : ia_H) (a : Nat) (ha : a < 41) {Z : Option Value → ia_H → Prop} (hZ : Z (some (.int (nI (ct (gr_ah (h.1 27) (h.2 28) a) 41)))) h) : ∀ (k g : Nat) (w : Option Value), g + k = 41 → R_ ia_k_X1_countAhead Z (4, [some (.ref 25), some (.int (nI a)), some (.int (nI (ct (gr_ah (h.1 27) (h.2 28) a) g))), some (.int (nI g)), w], [], h) := by
  intro k
  induction k with
  | zero =>
    intro g w hg
    rw [show g = 41 by omega]
    refine ia_walk (fun pc => Nat.beq pc 4) 50 (fun X hX => ?_)
    conv => whnf
    refine And.intro (fun c => ?_) (fun c => ?_)
    · exact absurd c (by decide)
    · conv => whnf
      exact hZ
  | succ k ih =>
    intro g w hg
    have tail : ∀ b : Bool, b = (decide (h.2 28 g < h.2 28 a) || (decide (h.2 28 g = h.2 28 a) && decide (g < a))) → R_ ia_k_X1_countAhead Z (52, [some (.ref 25), some (.int (nI a)), some (.int (nI (ct (gr_ah (h.1 27) (h.2 28) a) g))), some (.int (nI g)), w], [.int (bif b then 1 else 0)], h) := by
      intro b hb
      refine ia_walk (fun pc => Nat.beq pc 4) 50 (fun X hX => ?_)
      conv => whnf
      refine Exists.intro _ (And.intro (And.intro rfl (by omega)) ?_)
      conv => whnf
      refine Exists.intro _ (And.intro (And.intro rfl (by omega)) ?_)
      conv => whnf
      refine And.intro (fun c1 => ?_) (fun c1 => ?_)
      · conv => whnf
        refine And.intro (fun c2 => ?_) (fun c2 => ?_)
        · conv => whnf
          have e : gr_ah (h.1 27) (h.2 28) a g = false := by
            cases b with
            | true => exact absurd c2 (by decide)
            | false => simp only [gr_ah, ← hb, Bool.and_false]
          rw [nI_1, ← ct_f e]
          exact hX _ (ih (g + 1) _ (by omega))
        · conv => whnf
          have e : gr_ah (h.1 27) (h.2 28) a g = true := by
            cases b with
            | false => exact absurd rfl c2
            | true => simp only [gr_ah, ← hb, Bool.and_true]; exact decide_eq_true c1
          rw [nI_1, nI_1, ← ct_t e]
          exact hX _ (ih (g + 1) _ (by omega))
      · conv => whnf
        have e : gr_ah (h.1 27) (h.2 28) a g = false := by simp only [gr_ah, decide_eq_false c1, Bool.false_and]
        rw [nI_1, ← ct_f e]
        exact hX _ (ih (g + 1) _ (by omega))
    refine ia_walk (fun pc => Nat.beq pc 52) 50 (fun X hX => ?_)
    conv => whnf
    refine And.intro (fun c => ?_) (fun c => ?_)
    · conv => whnf
      refine Exists.intro _ (And.intro (And.intro rfl (by omega)) ?_)
      conv => whnf
      refine Exists.intro _ (And.intro (And.intro rfl (by omega)) ?_)
      conv => whnf
      refine And.intro (fun c1 => ?_) (fun c1 => ?_)
      · conv => whnf
        exact hX _ (tail true (by rw [decide_eq_true ((lg_cmp_lt _ _).mp c1)]; rfl))
      · conv => whnf
        refine Exists.intro _ (And.intro (And.intro rfl (by omega)) ?_)
        conv => whnf
        refine Exists.intro _ (And.intro (And.intro rfl (by omega)) ?_)
        have n1 : ¬ h.2 28 g < h.2 28 a := fun q => c1 ((lg_cmp_lt _ _).mpr q)
        conv => whnf
        refine And.intro (fun c2 => ?_) (fun c2 => ?_)
        · conv => whnf
          refine And.intro (fun c3 => ?_) (fun c3 => ?_)
          · conv => whnf
            exact hX _ (tail true (by rw [decide_eq_true ((lg_cmp_eq _ _).mp c2), decide_eq_true ((nI_ltI (by omega) (by omega)).mp c3)]; simp))
          · conv => whnf
            exact hX _ (tail false (by rw [decide_eq_false n1, decide_eq_false (fun q => c3 ((nI_ltI (by omega) (by omega)).mpr q))]; simp))
        · conv => whnf
          exact hX _ (tail false (by rw [decide_eq_false n1, decide_eq_false (fun q => c2 ((lg_cmp_eq _ _).mpr q))]; simp))
    · exact absurd ((nI_lt41 (by omega)).mpr (by omega)) c
theorem v_countAhead (h : ia_H) (a : Nat) (ha : a < 41) : V_ 9 [.ref 25, .int (nI a)] h (Z_ (.int (nI (ct (gr_ah (h.1 27) (h.2 28) a) 41))) h) := by
  refine ia_V_in ia_k_X1_countAhead [some (.ref 25), some (.int (nI a)), none, none, none] rfl rfl (Nat.le_of_ble_eq_true rfl) rfl ?_
  refine ia_walk (fun pc => Nat.beq pc 4) 50 (fun X hX => ?_)
  conv => whnf
  exact hX _ (l_countAhead h a ha ⟨rfl, rfl⟩ 41 0 _ rfl)
/-- twos below n: pairs j < g < n with p g j -/
def ct2 (p : Nat → Nat → Bool) : Nat → Nat
  | 0 => 0
  | n + 1 => ct2 p n + ct (p n) n
theorem ct2_le (p : Nat → Nat → Bool) : ∀ n, ct2 p n ≤ n * n
  | 0 => Nat.le_refl 0
  | n + 1 => by
    have h1 := ct2_le p n
    have h2 := ct_le (p n) n
    simp only [ct2]
    have : (n + 1) * (n + 1) = n * n + n + n + 1 := by rw [Nat.add_mul, Nat.mul_add]; omega
    omega
theorem l_countKnownTwos (h : ia_H) {Z : Option Value → ia_H → Prop} (hZ : Z (some (.int (nI (ct2 (fun g j => decide (h.1 27 g = h.1 27 j)) 41)))) h) : ∀ (k g : Nat) (w : Option Value), g + k = 41 → R_ ia_k_X1_countKnownTwos Z (4, [some (.ref 25), some (.int (nI (ct2 (fun g j => decide (h.1 27 g = h.1 27 j)) g))), some (.int (nI g)), w], [], h) := by
  intro k
  induction k with
  | zero =>
    intro g w hg
    rw [show g = 41 by omega]
    refine ia_walk (fun pc => Nat.beq pc 4) 50 (fun X hX => ?_)
    conv => whnf
    refine And.intro (fun c => ?_) (fun c => ?_)
    · exact absurd c (by decide)
    · conv => whnf
      exact hZ
  | succ k ih =>
    intro g w hg
    have inner : ∀ (k2 j : Nat), j + k2 = g → R_ ia_k_X1_countKnownTwos Z (12, [some (.ref 25), some (.int (nI (ct2 (fun g j => decide (h.1 27 g = h.1 27 j)) g + ct (fun j => decide (h.1 27 g = h.1 27 j)) j))), some (.int (nI g)), some (.int (nI j))], [], h) := by
      intro k2
      induction k2 with
      | zero =>
        intro j hj
        rw [show j = g by omega]
        refine ia_walk (fun pc => Nat.beq pc 4) 50 (fun X hX => ?_)
        conv => whnf
        refine And.intro (fun c => ?_) (fun c => ?_)
        · exact absurd ((nI_ltI (by omega) (by omega)).mp c) (by omega)
        · conv => whnf
          rw [nI_1]
          exact hX _ (ih (g + 1) _ (by omega))
      | succ k2 ih2 =>
        intro j hj
        refine ia_walk (fun pc => Nat.beq pc 12) 50 (fun X hX => ?_)
        conv => whnf
        refine And.intro (fun c => ?_) (fun c => ?_)
        · conv => whnf
          refine Exists.intro _ (And.intro (And.intro rfl (by omega)) ?_)
          conv => whnf
          refine Exists.intro _ (And.intro (And.intro rfl (by omega)) ?_)
          conv => whnf
          refine And.intro (fun c2 => ?_) (fun c2 => ?_)
          · conv => whnf
            have e := ct_t (p := fun j => decide (h.1 27 g = h.1 27 j)) (n := j) (decide_eq_true c2)
            rw [nI_1, nI_1, Nat.add_assoc, ← e]
            exact hX _ (ih2 (j + 1) (by omega))
          · conv => whnf
            have e := ct_f (p := fun j => decide (h.1 27 g = h.1 27 j)) (n := j) (decide_eq_false c2)
            rw [nI_1, ← e]
            exact hX _ (ih2 (j + 1) (by omega))
        · exact absurd ((nI_ltI (by omega) (by omega)).mpr (by omega)) c
    refine ia_walk (fun pc => Nat.beq pc 12) 50 (fun X hX => ?_)
    conv => whnf
    refine And.intro (fun c => ?_) (fun c => ?_)
    · conv => whnf
      exact hX _ (inner g 0 (by omega))
    · exact absurd ((nI_lt41 (by omega)).mpr (by omega)) c
theorem v_countKnownTwos (h : ia_H) : V_ 12 [.ref 25] h (Z_ (.int (nI (ct2 (fun g j => decide (h.1 27 g = h.1 27 j)) 41))) h) := by
  refine ia_V_in ia_k_X1_countKnownTwos [some (.ref 25), none, none, none] rfl rfl (Nat.le_of_ble_eq_true rfl) rfl ?_
  refine ia_walk (fun pc => Nat.beq pc 4) 50 (fun X hX => ?_)
  conv => whnf
  exact hX _ (l_countKnownTwos h ⟨rfl, rfl⟩ 41 0 _ rfl)
/-- two gauges of a group that differ by m, as the class has it -/
def gr_tw (L : Nat → Int32) (O : Nat → Int64) (m : Int64) (g j : Nat) : Bool := decide (L g = L j) && decide ((if 0 < O g - O j then O g - O j else -(O g - O j)) = m)
theorem l_countTwos (h : ia_H) (m : Int64) {Z : Option Value → ia_H → Prop} (hZ : Z (some (.int (nI (ct2 (gr_tw (h.1 27) (h.2 28) m) 41)))) h) : ∀ (k g : Nat) (w : Option Value), g + k = 41 → R_ ia_k_X1_countTwos Z (5, [some (.ref 25), some (.long m), none, some (.int (nI (ct2 (gr_tw (h.1 27) (h.2 28) m) g))), some (.int (nI g)), w], [], h) := by
  intro k
  induction k with
  | zero =>
    intro g w hg
    rw [show g = 41 by omega]
    refine ia_walk (fun pc => Nat.beq pc 5) 50 (fun X hX => ?_)
    conv => whnf
    refine And.intro (fun c => ?_) (fun c => ?_)
    · exact absurd c (by decide)
    · conv => whnf
      exact hZ
  | succ k ih =>
    intro g w hg
    have inner : ∀ (k2 j : Nat), j + k2 = g → R_ ia_k_X1_countTwos Z (15, [some (.ref 25), some (.long m), none, some (.int (nI (ct2 (gr_tw (h.1 27) (h.2 28) m) g + ct (gr_tw (h.1 27) (h.2 28) m g) j))), some (.int (nI g)), some (.int (nI j))], [], h) := by
      intro k2
      induction k2 with
      | zero =>
        intro j hj
        rw [show j = g by omega]
        refine ia_walk (fun pc => Nat.beq pc 5) 50 (fun X hX => ?_)
        conv => whnf
        refine And.intro (fun c => ?_) (fun c => ?_)
        · exact absurd ((nI_ltI (by omega) (by omega)).mp c) (by omega)
        · conv => whnf
          rw [nI_1]
          exact hX _ (ih (g + 1) _ (by omega))
      | succ k2 ih2 =>
        intro j hj
        refine ia_walk (fun pc => Nat.beq pc 15) 50 (fun X hX => ?_)
        conv => whnf
        refine And.intro (fun c => ?_) (fun c => ?_)
        · conv => whnf
          refine Exists.intro _ (And.intro (And.intro rfl (by omega)) ?_)
          conv => whnf
          refine Exists.intro _ (And.intro (And.intro rfl (by omega)) ?_)
          conv => whnf
          refine And.intro (fun c2 => ?_) (fun c2 => ?_)
          · conv => whnf
            refine Exists.intro _ (And.intro (And.intro rfl (by omega)) ?_)
            conv => whnf
            refine Exists.intro _ (And.intro (And.intro rfl (by omega)) ?_)
            conv => whnf
            refine And.intro (fun c3 => ?_) (fun c3 => ?_)
            · conv => whnf
              have e := ct_t (p := gr_tw (h.1 27) (h.2 28) m g) (n := j) (by simp only [gr_tw, decide_eq_true c2, decide_eq_true ((lg_cmp_eq _ _).mp c3), Bool.and_true])
              rw [nI_1, nI_1, Nat.add_assoc, ← e]
              exact hX _ (ih2 (j + 1) (by omega))
            · conv => whnf
              have e := ct_f (p := gr_tw (h.1 27) (h.2 28) m g) (n := j) (by simp only [gr_tw, decide_eq_false (fun q => c3 ((lg_cmp_eq _ _).mpr q)), Bool.and_false])
              rw [nI_1, ← e]
              exact hX _ (ih2 (j + 1) (by omega))
          · conv => whnf
            have e := ct_f (p := gr_tw (h.1 27) (h.2 28) m g) (n := j) (by simp only [gr_tw, decide_eq_false c2, Bool.false_and])
            rw [nI_1, ← e]
            exact hX _ (ih2 (j + 1) (by omega))
        · exact absurd ((nI_ltI (by omega) (by omega)).mpr (by omega)) c
    refine ia_walk (fun pc => Nat.beq pc 15) 50 (fun X hX => ?_)
    conv => whnf
    refine And.intro (fun c => ?_) (fun c => ?_)
    · conv => whnf
      exact hX _ (inner g 0 (by omega))
    · exact absurd ((nI_lt41 (by omega)).mpr (by omega)) c
theorem v_countTwos (h : ia_H) (m : Int64) : V_ 11 [.ref 25, .long m] h (Z_ (.int (nI (ct2 (gr_tw (h.1 27) (h.2 28) m) 41))) h) := by
  refine ia_V_in ia_k_X1_countTwos [some (.ref 25), some (.long m), none, none, none, none] rfl rfl (Nat.le_of_ble_eq_true rfl) rfl ?_
  refine ia_walk (fun pc => Nat.beq pc 5) 50 (fun X hX => ?_)
  conv => whnf
  exact hX _ (l_countTwos h m ⟨rfl, rfl⟩ 41 0 _ rfl)
theorem l_countGroups (h : ia_H) (n : Nat) (hn : n ≤ 41) {Z : Option Value → ia_H → Prop} (hZ : Z (some (.int (nI (ct (fun j => decide (h.1 27 j = nI j)) n)))) h) : ∀ k g : Nat, g + k = n → R_ ia_k_X1_countGroups Z (4, [some (.ref 25), some (.int (nI n)), some (.int (nI (ct (fun j => decide (h.1 27 j = nI j)) g))), some (.int (nI g))], [], h) := by
  intro k
  induction k with
  | zero =>
    intro g hg
    rw [show g = n by omega]
    refine ia_walk (fun pc => Nat.beq pc 4) 50 (fun X hX => ?_)
    conv => whnf
    refine And.intro (fun c => ?_) (fun c => ?_)
    · exact absurd ((nI_ltI (by omega) (by omega)).mp c) (by omega)
    · conv => whnf
      exact hZ
  | succ k ih =>
    intro g hg
    refine ia_walk (fun pc => Nat.beq pc 4) 50 (fun X hX => ?_)
    conv => whnf
    refine And.intro (fun c => ?_) (fun c => ?_)
    · conv => whnf
      refine And.intro (fun c1 => ?_) (fun c1 => ?_)
      · conv => whnf
        refine Exists.intro _ (And.intro (And.intro rfl (by omega)) ?_)
        conv => whnf
        refine And.intro (fun c2 => ?_) (fun c2 => ?_)
        · conv => whnf
          rw [nI_1, nI_1, ← ct_t (p := fun j => decide (h.1 27 j = nI j)) (decide_eq_true c2)]
          exact hX _ (ih (g + 1) (by omega))
        · conv => whnf
          rw [nI_1, ← ct_f (p := fun j => decide (h.1 27 j = nI j)) (decide_eq_false c2)]
          exact hX _ (ih (g + 1) (by omega))
      · exact absurd ((nI_lt41 (by omega)).mpr (by omega)) c1
    · exact absurd ((nI_ltI (by omega) (by omega)).mpr (by omega)) c
theorem v_countGroups (h : ia_H) (n : Nat) (hn : n ≤ 41) : V_ 13 [.ref 25, .int (nI n)] h (Z_ (.int (nI (ct (fun j => decide (h.1 27 j = nI j)) n))) h) := by
  refine ia_V_in ia_k_X1_countGroups [some (.ref 25), some (.int (nI n)), none, none] rfl rfl (Nat.le_of_ble_eq_true rfl) rfl ?_
  refine ia_walk (fun pc => Nat.beq pc 4) 50 (fun X hX => ?_)
  conv => whnf
  exact hX _ (l_countGroups h n hn ⟨rfl, rfl⟩ n 0 (by omega))
theorem l_countOf (h : ia_H) (x : Int32) (n : Nat) (hn : n ≤ 120) {Z : Option Value → ia_H → Prop} (hZ : Z (some (.int (nI (ct (fun j => decide (h.1 26 j = x)) n)))) h) : ∀ k g : Nat, g + k = n → R_ ia_k_X1_countOf Z (5, [some (.ref 25), some (.int x), some (.int (nI n)), some (.int (nI (ct (fun j => decide (h.1 26 j = x)) g))), some (.int (nI g))], [], h) := by
  intro k
  induction k with
  | zero =>
    intro g hg
    rw [show g = n by omega]
    refine ia_walk (fun pc => Nat.beq pc 5) 50 (fun X hX => ?_)
    conv => whnf
    refine And.intro (fun c => ?_) (fun c => ?_)
    · exact absurd ((nI_ltI (by omega) (by omega)).mp c) (by omega)
    · conv => whnf
      exact hZ
  | succ k ih =>
    intro g hg
    refine ia_walk (fun pc => Nat.beq pc 5) 50 (fun X hX => ?_)
    conv => whnf
    refine And.intro (fun c => ?_) (fun c => ?_)
    · conv => whnf
      refine And.intro (fun c1 => ?_) (fun c1 => ?_)
      · conv => whnf
        refine Exists.intro _ (And.intro (And.intro rfl (by omega)) ?_)
        conv => whnf
        refine And.intro (fun c2 => ?_) (fun c2 => ?_)
        · conv => whnf
          rw [nI_1, nI_1, ← ct_t (p := fun j => decide (h.1 26 j = x)) (decide_eq_true c2)]
          exact hX _ (ih (g + 1) (by omega))
        · conv => whnf
          rw [nI_1, ← ct_f (p := fun j => decide (h.1 26 j = x)) (decide_eq_false c2)]
          exact hX _ (ih (g + 1) (by omega))
      · exact absurd ((nI_lt120 (by omega)).mpr (by omega)) c1
    · exact absurd ((nI_ltI (by omega) (by omega)).mpr (by omega)) c
theorem v_countOf (h : ia_H) (x : Int32) (n : Nat) (hn : n ≤ 120) : V_ 14 [.ref 25, .int x, .int (nI n)] h (Z_ (.int (nI (ct (fun j => decide (h.1 26 j = x)) n))) h) := by
  refine ia_V_in ia_k_X1_countOf [some (.ref 25), some (.int x), some (.int (nI n)), none, none] rfl rfl (Nat.le_of_ble_eq_true rfl) rfl ?_
  refine ia_walk (fun pc => Nat.beq pc 5) 50 (fun X hX => ?_)
  conv => whnf
  exact hX _ (l_countOf h x n hn ⟨rfl, rfl⟩ n 0 (by omega))
end
section
/-! heaps with a cell's numbers put in -/
def hsI (h : ia_H) (x : Nat) (f : Nat → Int32) : ia_H := (fun y => if y = x then f else h.1 y, h.2)
def hsL (h : ia_H) (x : Nat) (f : Nat → Int64) : ia_H := (h.1, fun y => if y = x then f else h.2 y)
theorem hsI_u (h : ia_H) (x i : Nat) (v : Int32) : ((ia_uI h.1 x i v, h.2) : ia_H) = hsI h x (upd (h.1 x) i v) := rfl
theorem hsL_u (h : ia_H) (x i : Nat) (v : Int64) : ((h.1, ia_uL h.2 x i v) : ia_H) = hsL h x (vp_updL (h.2 x) i v) := rfl
theorem hsI_same (h : ia_H) (x : Nat) (f g : Nat → Int32) : hsI (hsI h x f) x g = hsI h x g := by
  refine Prod.ext (funext fun y => ?_) rfl
  show (if y = x then g else if y = x then f else h.1 y) = if y = x then g else h.1 y
  by_cases hy : y = x <;> simp [hy]
theorem hsL_same (h : ia_H) (x : Nat) (f g : Nat → Int64) : hsL (hsL h x f) x g = hsL h x g := by
  refine Prod.ext rfl (funext fun y => ?_)
  show (if y = x then g else if y = x then f else h.2 y) = if y = x then g else h.2 y
  by_cases hy : y = x <;> simp [hy]
theorem hsI_comm (h : ia_H) {x y : Nat} (hxy : x ≠ y) (f g : Nat → Int32) : hsI (hsI h x f) y g = hsI (hsI h y g) x f := by
  refine Prod.ext (funext fun z => ?_) rfl
  show (if z = y then g else if z = x then f else h.1 z) = if z = x then f else if z = y then g else h.1 z
  by_cases h1 : z = x
  · rw [if_neg (fun q => hxy (h1.symm.trans q)), if_pos h1, if_pos h1]
  · rw [if_neg h1, if_neg h1]
theorem hsIL (h : ia_H) (x y : Nat) (f : Nat → Int32) (o : Nat → Int64) : hsI (hsL h y o) x f = hsL (hsI h x f) y o := rfl
theorem hsI_eta (h : ia_H) (x : Nat) : hsI h x (h.1 x) = h := by
  refine Prod.ext (funext fun y => ?_) rfl
  show (if y = x then h.1 x else h.1 y) = h.1 y
  by_cases hy : y = x <;> simp [hy]
theorem hsL_eta (h : ia_H) (x : Nat) : hsL h x (h.2 x) = h := by
  refine Prod.ext rfl (funext fun y => ?_)
  show (if y = x then h.2 x else h.2 y) = h.2 y
  by_cases hy : y = x <;> simp [hy]
theorem hsI_at (h : ia_H) (x : Nat) (f : Nat → Int32) : (hsI h x f).1 x = f := if_pos rfl
theorem hsL_at (h : ia_H) (x : Nat) (f : Nat → Int64) : (hsL h x f).2 x = f := if_pos rfl
theorem hsI_ne (h : ia_H) {x y : Nat} (f : Nat → Int32) (hy : y ≠ x) : (hsI h x f).1 y = h.1 y := if_neg hy
theorem hsL_ne (h : ia_H) {x y : Nat} (f : Nat → Int64) (hy : y ≠ x) : (hsL h x f).2 y = h.2 y := if_neg hy
/-! Groups.move: all below n that are of the group p come to q, by d -/
def mvL (L : Nat → Int32) (p q : Int32) (n : Nat) : Nat → Int32 := fun j => if j < n ∧ L j = p then q else L j
def mvO (L : Nat → Int32) (O : Nat → Int64) (p : Int32) (d : Int64) (n : Nat) : Nat → Int64 := fun j => if j < n ∧ L j = p then O j + d else O j
theorem mvL_0 (L : Nat → Int32) (p q : Int32) : mvL L p q 0 = L := by funext j; simp [mvL]
theorem mvO_0 (L : Nat → Int32) (O : Nat → Int64) (p : Int32) (d : Int64) : mvO L O p d 0 = O := by funext j; simp [mvO]
theorem mvL_ge {L : Nat → Int32} {p q : Int32} {n j : Nat} (h : n ≤ j) : mvL L p q n j = L j := if_neg (fun z => by omega)
theorem mvO_ge {L : Nat → Int32} {O : Nat → Int64} {p : Int32} {d : Int64} {n j : Nat} (h : n ≤ j) : mvO L O p d n j = O j := if_neg (fun z => by omega)
theorem mvL_t {L : Nat → Int32} {p q : Int32} {n : Nat} (h : L n = p) : upd (mvL L p q n) n q = mvL L p q (n + 1) := by
  funext j
  simp only [upd, mvL]
  by_cases hj : j = n
  · subst hj; simp [h]
  · simp only [hj, if_false]
    by_cases hl : j < n
    · simp [hl, Nat.lt_succ_of_lt hl]
    · rw [if_neg (fun z => hl z.1), if_neg (fun z => hl (by omega))]
theorem mvL_f {L : Nat → Int32} {p q : Int32} {n : Nat} (h : ¬ L n = p) : mvL L p q n = mvL L p q (n + 1) := by
  funext j
  simp only [mvL]
  by_cases hj : j = n
  · subst hj; simp [h]
  · by_cases hl : j < n
    · simp [hl, Nat.lt_succ_of_lt hl]
    · rw [if_neg (fun z => hl z.1), if_neg (fun z => hl (by omega))]
theorem mvO_t {L : Nat → Int32} {O : Nat → Int64} {p : Int32} {d : Int64} {n : Nat} (h : L n = p) : vp_updL (mvO L O p d n) n (O n + d) = mvO L O p d (n + 1) := by
  funext j
  simp only [vp_updL, mvO]
  by_cases hj : j = n
  · subst hj; simp [h]
  · simp only [hj, if_false]
    by_cases hl : j < n
    · simp [hl, Nat.lt_succ_of_lt hl]
    · rw [if_neg (fun z => hl z.1), if_neg (fun z => hl (by omega))]
theorem mvO_f {L : Nat → Int32} {O : Nat → Int64} {p : Int32} {d : Int64} {n : Nat} (h : ¬ L n = p) : mvO L O p d n = mvO L O p d (n + 1) := by
  funext j
  simp only [mvO]
  by_cases hj : j = n
  · subst hj; simp [h]
  · by_cases hl : j < n
    · simp [hl, Nat.lt_succ_of_lt hl]
    · rw [if_neg (fun z => hl z.1), if_neg (fun z => hl (by omega))]
/-- the heap with least and offset put in -/
def hG (h : ia_H) (L : Nat → Int32) (O : Nat → Int64) : ia_H := hsL (hsI h 27 L) 28 O
theorem l_move (h : ia_H) (p q : Int32) (d : Int64) {Z : Option Value → ia_H → Prop} (hZ : Z none (hG h (mvL (h.1 27) p q 41) (mvO (h.1 27) (h.2 28) p d 41))) : ∀ k g : Nat, g + k = 41 → R_ ia_k_X1_move Z (3, [some (.ref 25), some (.int p), some (.int q), some (.long d), none, some (.int (nI g))], [], hG h (mvL (h.1 27) p q g) (mvO (h.1 27) (h.2 28) p d g)) := by
  intro k
  induction k with
  | zero =>
    intro g hg
    rw [show g = 41 by omega]
    refine ia_walk (fun pc => Nat.beq pc 3) 50 (fun X hX => ?_)
    conv => whnf
    refine And.intro (fun c => ?_) (fun c => ?_)
    · exact absurd c (by decide)
    · conv => whnf
      exact hZ
  | succ k ih =>
    intro g hg
    have eL : mvL (h.1 27) p q g g = h.1 27 g := mvL_ge (Nat.le_refl g)
    have eO : mvO (h.1 27) (h.2 28) p d g g = h.2 28 g := mvO_ge (Nat.le_refl g)
    refine ia_walk (fun pc => Nat.beq pc 3) 50 (fun X hX => ?_)
    conv => whnf
    refine And.intro (fun c => ?_) (fun c => ?_)
    · conv => whnf
      refine Exists.intro _ (And.intro (And.intro rfl (by omega)) ?_)
      conv => whnf
      refine And.intro (fun c2 => ?_) (fun c2 => ?_)
      · conv => whnf
        refine Exists.intro _ (And.intro (And.intro rfl (by omega)) ?_)
        conv => whnf
        refine Exists.intro _ (And.intro (And.intro rfl (by omega)) ?_)
        conv => whnf
        refine Exists.intro _ (And.intro (And.intro rfl (by omega)) ?_)
        conv => whnf
        have c3 : h.1 27 g = p := eL.symm.trans c2
        rw [nI_1]
        have e2 : vp_updL (mvO (h.1 27) (h.2 28) p d g) g (mvO (h.1 27) (h.2 28) p d g g + d) = mvO (h.1 27) (h.2 28) p d (g + 1) := by rw [eO]; exact mvO_t c3
        have e3 : hsL (hsI (hG h (mvL (h.1 27) p q g) (mvO (h.1 27) (h.2 28) p d g)) 27 (upd (mvL (h.1 27) p q g) g q)) 28 (vp_updL (mvO (h.1 27) (h.2 28) p d g) g (mvO (h.1 27) (h.2 28) p d g g + d)) = hG h (mvL (h.1 27) p q (g + 1)) (mvO (h.1 27) (h.2 28) p d (g + 1)) := by
          rw [e2, mvL_t c3]
          unfold hG
          rw [hsIL, hsL_same, hsI_same]
        refine hX _ (e3 ▸ ih (g + 1) (by omega) : ia_Run _ _ _ _ (3, _, _, hsL (hsI (hG h (mvL (h.1 27) p q g) (mvO (h.1 27) (h.2 28) p d g)) 27 (upd (mvL (h.1 27) p q g) g q)) 28 (vp_updL (mvO (h.1 27) (h.2 28) p d g) g (mvO (h.1 27) (h.2 28) p d g g + d))))
      · conv => whnf
        have c3 : ¬ h.1 27 g = p := fun z => c2 (eL.trans z)
        rw [nI_1, mvL_f c3, mvO_f c3]
        exact hX _ (ih (g + 1) (by omega))
    · exact absurd ((nI_lt41 (by omega)).mpr (by omega)) c
theorem v_move (h : ia_H) (p q : Int32) (d : Int64) : V_ 5 [.ref 25, .int p, .int q, .long d] h (fun r h' => r = none ∧ h' = hG h (mvL (h.1 27) p q 41) (mvO (h.1 27) (h.2 28) p d 41)) := by
  refine ia_V_in ia_k_X1_move [some (.ref 25), some (.int p), some (.int q), some (.long d), none, none] rfl rfl (Nat.le_of_ble_eq_true rfl) rfl ?_
  refine ia_walk (fun pc => Nat.beq pc 3) 50 (fun X hX => ?_)
  conv => whnf
  have e : hG h (mvL (h.1 27) p q 0) (mvO (h.1 27) (h.2 28) p d 0) = h := by
    rw [mvL_0, mvO_0]
    unfold hG
    rw [hsI_eta, hsL_eta]
  have := l_move h p q d (Z := fun r h' => r = none ∧ h' = hG h (mvL (h.1 27) p q 41) (mvO (h.1 27) (h.2 28) p d 41)) ⟨rfl, rfl⟩ 41 0 rfl
  rw [e] at this
  exact hX _ this
/-- join, as least and offset go over -/
def jnL (L : Nat → Int32) (a b : Nat) : Nat → Int32 := if L a < L b then mvL L (L b) (L a) 41 else mvL L (L a) (L b) 41
def jnO (L : Nat → Int32) (O : Nat → Int64) (a b : Nat) (m : Int64) : Nat → Int64 := if L a < L b then mvO L O (L b) (-(O b + m - O a)) 41 else mvO L O (L a) (O b + m - O a) 41
theorem v_join (h : ia_H) (a b : Nat) (ha : a < 41) (hb : b < 41) (m : Int64) : V_ 4 [.ref 25, .int (nI a), .int (nI b), .long m] h (fun r h' => r = none ∧ h' = hG h (jnL (h.1 27) a b) (jnO (h.1 27) (h.2 28) a b m)) := by
  refine ia_V_in ia_k_X1_join [some (.ref 25), some (.int (nI a)), some (.int (nI b)), some (.long m), none, none, none] rfl rfl (Nat.le_of_ble_eq_true rfl) rfl ?_
  refine ia_walk (fun _ => false) 60 (fun X hX => ?_)
  conv => whnf
  refine Exists.intro _ (And.intro (And.intro rfl (hb)) ?_)
  conv => whnf
  refine Exists.intro _ (And.intro (And.intro rfl (ha)) ?_)
  conv => whnf
  refine Exists.intro _ (And.intro (And.intro rfl (ha)) ?_)
  conv => whnf
  refine Exists.intro _ (And.intro (And.intro rfl (hb)) ?_)
  conv => whnf
  refine And.intro (fun c => ?_) (fun c => ?_)
  · conv => whnf
    refine Exists.intro _ (And.intro (And.intro rfl (hb)) ?_)
    conv => whnf
    refine Exists.intro _ (And.intro (And.intro rfl (ha)) ?_)
    conv => whnf
    refine Exists.intro (_, _) (And.intro (ia_callE (v_move _ _ _ _)) ?_)
    conv => whnf
    exact ⟨rfl, by unfold jnL jnO; rw [if_pos c, if_pos c]; rfl⟩
  · conv => whnf
    refine Exists.intro _ (And.intro (And.intro rfl (ha)) ?_)
    conv => whnf
    refine Exists.intro _ (And.intro (And.intro rfl (hb)) ?_)
    conv => whnf
    refine Exists.intro (_, _) (And.intro (ia_callE (v_move _ _ _ _)) ?_)
    conv => whnf
    exact ⟨rfl, by unfold jnL jnO; rw [if_neg c, if_neg c]; rfl⟩
def mxL (x y : Int64) : Int64 := if y < x then x else y
def mnL (x y : Int64) : Int64 := if y < x then y else x
/-- what a statement is, as the class weighs it -/
def wgF (L : Nat → Int32) (O : Nat → Int64) (a b : Nat) (m : Int64) : Int32 :=
  if L a = L b then (if O a - O b = m then 1 else 2)
  else if 1000000000000000000 < mxL (gr_hi L O (L b) 41) (gr_hi L O (L a) 41 + (O b + m - O a)) - mnL (gr_lo L O (L b) 41) (gr_lo L O (L a) 41 + (O b + m - O a)) then 3 else 0
theorem v_weigh (h : ia_H) (s a b : Nat) (hs : s < 120) (ha : a < 41) (hb : b < 41) (e1 : h.1 7 s = nI a) (e2 : h.1 8 s = nI b) : V_ 3 [.ref 25, .ref 4, .int (nI s)] h (Z_ (.int (wgF (h.1 27) (h.2 28) a b (h.2 9 s))) h) := by
  refine ia_V_in ia_k_X1_weigh [some (.ref 25), some (.ref 4), some (.int (nI s)), none, none, none, none, none, none, none, none, none, none] rfl rfl (Nat.le_of_ble_eq_true rfl) rfl ?_
  refine ia_walk (fun _ => false) 120 (fun X hX => ?_)
  conv => whnf
  refine Exists.intro _ (And.intro (And.intro rfl (hs)) ?_)
  conv => whnf
  refine Exists.intro _ (And.intro (And.intro rfl (hs)) ?_)
  conv => whnf
  refine Exists.intro _ (And.intro (And.intro rfl (hs)) ?_)
  conv => whnf
  refine Exists.intro (a) (And.intro (And.intro (e1) (ha)) ?_)
  conv => whnf
  refine Exists.intro (b) (And.intro (And.intro (e2) (hb)) ?_)
  conv => whnf
  refine And.intro (fun c => ?_) (fun c => ?_)
  · conv => whnf
    refine Exists.intro (a) (And.intro (And.intro (e1) (ha)) ?_)
    conv => whnf
    refine Exists.intro (b) (And.intro (And.intro (e2) (hb)) ?_)
    conv => whnf
    refine And.intro (fun c2 => ?_) (fun c2 => ?_)
    · conv => whnf
      exact ⟨by unfold wgF; rw [if_pos c, if_pos ((lg_cmp_eq _ _).mp c2)], rfl⟩
    · conv => whnf
      exact ⟨by unfold wgF; rw [if_pos c, if_neg (fun q => c2 ((lg_cmp_eq _ _).mpr q))], rfl⟩
  · conv => whnf
    refine Exists.intro (b) (And.intro (And.intro (e2) (hb)) ?_)
    conv => whnf
    refine Exists.intro (a) (And.intro (And.intro (e1) (ha)) ?_)
    conv => whnf
    refine Exists.intro (b) (And.intro (And.intro (e2) (hb)) ?_)
    conv => whnf
    obtain ⟨x1, f1, ev'⟩ := ia_callN (f := Value.long) (v_highest h (h.1 27 b))
    refine Exists.intro (_, _) (And.intro ev' ?_)
    clear ev'
    conv => whnf
    refine Exists.intro (a) (And.intro (And.intro (e1) (ha)) ?_)
    conv => whnf
    obtain ⟨x2, f2, ev'⟩ := ia_callN (f := Value.long) (v_highest h (h.1 27 a))
    refine Exists.intro (_, _) (And.intro ev' ?_)
    clear ev'
    conv => whnf
    refine Exists.intro (b) (And.intro (And.intro (e2) (hb)) ?_)
    conv => whnf
    obtain ⟨x3, f3, ev'⟩ := ia_callN (f := Value.long) (v_lowest h (h.1 27 b))
    refine Exists.intro (_, _) (And.intro ev' ?_)
    clear ev'
    conv => whnf
    refine Exists.intro (a) (And.intro (And.intro (e1) (ha)) ?_)
    conv => whnf
    obtain ⟨x4, f4, ev'⟩ := ia_callN (f := Value.long) (v_lowest h (h.1 27 a))
    refine Exists.intro (_, _) (And.intro ev' ?_)
    clear ev'
    conv => whnf
    refine And.intro (fun c2 => ?_) (fun c2 => ?_)
    · conv => whnf
      exact ⟨by unfold wgF mxL mnL; rw [if_neg c, ← f1, ← f2, ← f3, ← f4, if_pos ((lg_cmp_gt _ _).mp c2)], rfl⟩
    · conv => whnf
      exact ⟨by unfold wgF mxL mnL; rw [if_neg c, ← f1, ← f2, ← f3, ← f4, if_neg (fun q => c2 ((lg_cmp_gt _ _).mpr q))], rfl⟩
end
section
/-! Groups.judge -/
def hJ (h : ia_H) (L : Nat → Int32) (O : Nat → Int64) (V : Nat → Int32) : ia_H := hsI (hG h L O) 26 V
abbrev jgT : Type := (Nat → Int32) × (Nat → Int64) × (Nat → Int32)
/-- one statement more is judged -/
def jgS (A B : Nat → Nat) (m : Nat → Int64) (out : Nat → Int32) (s : Nat) (t : jgT) : jgT :=
  if out s = 0 then (if wgF t.1 t.2.1 (A s) (B s) (m s) = 0 then (jnL t.1 (A s) (B s), jnO t.1 t.2.1 (A s) (B s) (m s), upd t.2.2 s 0) else (t.1, t.2.1, upd t.2.2 s (wgF t.1 t.2.1 (A s) (B s) (m s)))) else (t.1, t.2.1, upd t.2.2 s 4)
def jgR (A B : Nat → Nat) (m : Nat → Int64) (out : Nat → Int32) (t : jgT) : Nat → jgT
  | 0 => t
  | s + 1 => jgS A B m out s (jgR A B m out t s)
/-- each gauge below n by itself -/
def jgL (L : Nat → Int32) (n : Nat) : Nat → Int32 := fun j => if j < n then nI j else L j
def jgO (O : Nat → Int64) (n : Nat) : Nat → Int64 := fun j => if j < n then 0 else O j
theorem jgL_0 (L : Nat → Int32) : jgL L 0 = L := by funext j; simp [jgL]
theorem jgO_0 (O : Nat → Int64) : jgO O 0 = O := by funext j; simp [jgO]
theorem jgL_s (L : Nat → Int32) (n : Nat) : upd (jgL L n) n (nI n) = jgL L (n + 1) := by
  funext j
  simp only [upd, jgL]
  by_cases hj : j = n
  · subst hj; simp
  · by_cases hl : j < n
    · simp [hj, hl, Nat.lt_succ_of_lt hl]
    · simp [hj, hl, show ¬ j < n + 1 by omega]
theorem jgO_s (O : Nat → Int64) (n : Nat) : vp_updL (jgO O n) n 0 = jgO O (n + 1) := by
  funext j
  simp only [vp_updL, jgO]
  by_cases hj : j = n
  · subst hj; simp
  · by_cases hl : j < n
    · simp [hj, hl, Nat.lt_succ_of_lt hl]
    · simp [hj, hl, show ¬ j < n + 1 by omega]
theorem hJ_put (h : ia_H) (L : Nat → Int32) (O : Nat → Int64) (V W : Nat → Int32) : hsI (hJ h L O V) 26 W = hJ h L O W := hsI_same _ _ _ _
theorem hJ_G (h : ia_H) (L L2 : Nat → Int32) (O O2 : Nat → Int64) (V : Nat → Int32) : hG (hJ h L O V) L2 O2 = hJ h L2 O2 V := by
  refine Prod.ext (funext fun y => ?_) (funext fun y => ?_)
  · simp only [hG, hJ, hsI, hsL]
    by_cases h1 : y = 27
    · subst h1; simp
    · by_cases h2 : y = 26
      · subst h2; simp
      · simp [h1, h2]
  · simp only [hG, hJ, hsI, hsL]
    by_cases h1 : y = 28
    · subst h1; simp
    · simp [h1]
theorem l_judge (h : ia_H) (n : Nat) (hn : n ≤ 120) (hst : h.1 4 7 = nI n) (A B : Nat → Nat) (hA : ∀ s, s < n → h.1 7 s = nI (A s) ∧ A s < 41) (hB : ∀ s, s < n → h.1 8 s = nI (B s) ∧ B s < 41) (t0 : jgT) {Z : Option Value → ia_H → Prop} (hZ : Z none (hJ h (jgR A B (h.2 9) (h.1 10) t0 n).1 (jgR A B (h.2 9) (h.1 10) t0 n).2.1 (jgR A B (h.2 9) (h.1 10) t0 n).2.2)) : ∀ k s : Nat, s + k = n → ∀ t : jgT, t = jgR A B (h.2 9) (h.1 10) t0 s → R_ ia_k_X1_judge Z (30, [some (.ref 25), some (.ref 4), some (.int (nI s))], [], hJ h t.1 t.2.1 t.2.2) := by
  intro k
  induction k with
  | zero =>
    intro s hs t ht
    have es : s = n := by omega
    subst es
    refine ia_walk (fun pc => Nat.beq pc 30) 50 (fun X hX => ?_)
    conv => whnf
    refine And.intro (fun c => ?_) (fun c => ?_)
    · exact absurd c (by show ¬ nI s < h.1 4 7; rw [hst]; exact nI_nlt (Nat.le_refl s) (by omega))
    · conv => whnf
      rw [ht]
      exact hZ
  | succ k ih =>
    intro s hs t ht
    obtain ⟨L, O, V⟩ := t
    have hlt : s < n := by omega
    obtain ⟨a1, a2⟩ := hA s hlt
    obtain ⟨b1, b2⟩ := hB s hlt
    -- behind the verdict v
    have tail : ∀ v : Int32, (¬ v = 0 → jgS A B (h.2 9) (h.1 10) s (L, O, V) = (L, O, upd V s v)) → (v = 0 → jgS A B (h.2 9) (h.1 10) s (L, O, V) = (jnL L (A s) (B s), jnO L O (A s) (B s) (h.2 9 s), upd V s v)) → R_ ia_k_X1_judge Z (62, [some (.ref 25), some (.ref 4), some (.int (nI s))], [.int v, .int (nI s), .ref 26], hJ h L O V) := by
      intro v hv1 hv2
      refine ia_walk (fun pc => Nat.beq pc 30) 50 (fun X hX => ?_)
      conv => whnf
      refine Exists.intro _ (And.intro (And.intro rfl (by omega)) ?_)
      conv => whnf
      refine Exists.intro _ (And.intro (And.intro rfl (by omega)) ?_)
      have ev : upd V s v s = v := by simp [upd]
      conv => whnf
      refine And.intro (fun c => ?_) (fun c => ?_)
      · have c0 : v = 0 := ev.symm.trans c
        conv => whnf
        refine Exists.intro _ (And.intro (And.intro rfl (by omega)) ?_)
        conv => whnf
        refine Exists.intro _ (And.intro (And.intro rfl (by omega)) ?_)
        conv => whnf
        refine Exists.intro _ (And.intro (And.intro rfl (by omega)) ?_)
        conv => whnf
        have hj := v_join (hJ h L O (upd V s v)) (A s) (B s) a2 b2 (h.2 9 s)
        rw [← hJ_put h L O V] at hj
        refine Exists.intro (_, _) (And.intro (ia_callE (r0 := none) (h0 := hJ h (jnL L (A s) (B s)) (jnO L O (A s) (B s) (h.2 9 s)) (upd V s v)) ?_) ?_)
        · obtain ⟨r, h2, g1, g2, g3⟩ := hj
          refine ⟨r, h2, ?_, g2, ?_⟩
          · rw [← a1, ← b1] at g1
            exact g1
          · rw [g3, hJ_put, hJ_G]
            rfl
        · conv => whnf
          rw [nI_1]
          refine hX _ (ih (s + 1) (by omega) (jnL L (A s) (B s), jnO L O (A s) (B s) (h.2 9 s), upd V s v) ?_)
          rw [jgR, ← ht, hv2 c0]
      · conv => whnf
        rw [nI_1]
        have e := hJ_put h L O V (upd V s v)
        refine hX _ (e ▸ ih (s + 1) (by omega) (L, O, upd V s v) ?_ : ia_Run _ _ _ _ (30, _, _, hsI (hJ h L O V) 26 (upd V s v)))
        rw [jgR, ← ht, hv1 (fun q => c (ev.trans q))]
    refine ia_walk (fun pc => Nat.beq pc 62) 50 (fun X hX => ?_)
    conv => whnf
    refine And.intro (fun c => ?_) (fun c => ?_)
    · conv => whnf
      refine Exists.intro _ (And.intro (And.intro rfl (by omega)) ?_)
      conv => whnf
      refine And.intro (fun c2 => ?_) (fun c2 => ?_)
      · have hw := v_weigh (hJ h L O V) s (A s) (B s) (by omega) a2 b2 a1 b1
        conv => whnf
        obtain ⟨v, ev, ec⟩ := ia_callN (f := Value.int) hw
        refine Exists.intro (_, _) (And.intro ec ?_)
        have ev : v = wgF L O (A s) (B s) (h.2 9 s) := ev
        have c2 : h.1 10 s = 0 := c2
        conv => whnf
        refine hX _ (tail v (fun q => ?_) (fun q => ?_))
        · unfold jgS
          rw [if_pos c2, if_neg (by rw [← ev]; exact q), ← ev]
        · unfold jgS
          rw [if_pos c2, if_pos (by rw [← ev]; exact q), q]
      · have c2 : ¬ h.1 10 s = 0 := c2
        conv => whnf
        refine hX _ (tail 4 (fun q => ?_) (fun q => absurd q (by decide)))
        unfold jgS
        rw [if_neg c2]
    · exact absurd (by show nI s < h.1 4 7; rw [hst]; exact nI_lt hlt (by omega)) c
/-- the first loop -/
theorem l_judge0 (h : ia_H) {Z : Option Value → ia_H → Prop} (hN : R_ ia_k_X1_judge Z (30, [some (.ref 25), some (.ref 4), some (.int 0)], [], hG h (jgL (h.1 27) 41) (jgO (h.2 28) 41))) : ∀ k g : Nat, g + k = 41 → R_ ia_k_X1_judge Z (2, [some (.ref 25), some (.ref 4), some (.int (nI g))], [], hG h (jgL (h.1 27) g) (jgO (h.2 28) g)) := by
  intro k
  induction k with
  | zero =>
    intro g hg
    rw [show g = 41 by omega]
    refine ia_walk (fun pc => Nat.beq pc 30) 50 (fun X hX => ?_)
    conv => whnf
    refine And.intro (fun c => ?_) (fun c => ?_)
    · exact absurd c (by decide)
    · conv => whnf
      exact hX _ (hN)
  | succ k ih =>
    intro g hg
    refine ia_walk (fun pc => Nat.beq pc 2) 50 (fun X hX => ?_)
    conv => whnf
    refine And.intro (fun c => ?_) (fun c => ?_)
    · conv => whnf
      refine Exists.intro _ (And.intro (And.intro rfl (by omega)) ?_)
      conv => whnf
      refine Exists.intro _ (And.intro (And.intro rfl (by omega)) ?_)
      conv => whnf
      rw [nI_1]
      have e : hsL (hsI (hG h (jgL (h.1 27) g) (jgO (h.2 28) g)) 27 (upd (jgL (h.1 27) g) g (nI g))) 28 (vp_updL (jgO (h.2 28) g) g 0) = hG h (jgL (h.1 27) (g + 1)) (jgO (h.2 28) (g + 1)) := by
        rw [jgL_s, jgO_s]
        unfold hG
        rw [hsIL, hsL_same, hsI_same]
      exact hX _ (e ▸ ih (g + 1) (by omega) : ia_Run _ _ _ _ (2, _, _, hsL (hsI (hG h (jgL (h.1 27) g) (jgO (h.2 28) g)) 27 (upd (jgL (h.1 27) g) g (nI g))) 28 (vp_updL (jgO (h.2 28) g) g 0)))
    · exact absurd ((nI_lt41 (by omega)).mpr (by omega)) c
/-- what judge makes of least, offset, verdict -/
def jgW (h : ia_H) (A B : Nat → Nat) (n : Nat) : jgT := jgR A B (h.2 9) (h.1 10) (jgL (h.1 27) 41, jgO (h.2 28) 41, h.1 26) n
theorem v_judge (h : ia_H) (n : Nat) (hn : n ≤ 120) (hst : h.1 4 7 = nI n) (A B : Nat → Nat) (hA : ∀ s, s < n → h.1 7 s = nI (A s) ∧ A s < 41) (hB : ∀ s, s < n → h.1 8 s = nI (B s) ∧ B s < 41) : V_ 2 [.ref 25, .ref 4] h (fun r h' => r = none ∧ h' = hJ h (jgW h A B n).1 (jgW h A B n).2.1 (jgW h A B n).2.2) := by
  refine ia_V_in ia_k_X1_judge [some (.ref 25), some (.ref 4), none] rfl rfl (Nat.le_of_ble_eq_true rfl) rfl ?_
  refine ia_walk (fun pc => Nat.beq pc 2) 50 (fun X hX => ?_)
  conv => whnf
  have e : hG h (jgL (h.1 27) 0) (jgO (h.2 28) 0) = h := by
    rw [jgL_0, jgO_0]
    unfold hG
    rw [hsI_eta, hsL_eta]
  have e2 : hJ h (jgL (h.1 27) 41) (jgO (h.2 28) 41) (h.1 26) = hG h (jgL (h.1 27) 41) (jgO (h.2 28) 41) := hsI_eta (hG h (jgL (h.1 27) 41) (jgO (h.2 28) 41)) 26
  have key := l_judge0 h (Z := fun r h' => r = none ∧ h' = hJ h (jgW h A B n).1 (jgW h A B n).2.1 (jgW h A B n).2.2) (by
    rw [← e2]
    exact l_judge h n hn hst A B hA hB _ ⟨rfl, rfl⟩ n 0 (by omega) (jgL (h.1 27) 41, jgO (h.2 28) 41, h.1 26) rfl) 41 0 rfl
  rw [e] at key
  exact hX _ key
end
section
/-! The reference's judging -/
def mjR (L : Nat → Int32) (O : Nat → Int64) (la lb : Int32) (sh : Int64) : Nat → Int64 × Int64 × Bool
  | 0 => (0, 0, true)
  | n + 1 => match mjR L O la lb sh n with
    | (lo, hi, f) => if L n = la then (if f = true ∨ O n + sh < lo then O n + sh else lo, if f = true ∨ hi < O n + sh then O n + sh else hi, false)
      else if L n = lb then (if f = true ∨ O n < lo then O n else lo, if f = true ∨ hi < O n then O n else hi, false) else (lo, hi, f)
def mjF (L : Nat → Int32) (O : Nat → Int64) (G a b : Nat) (m : Int64) : Int32 :=
  if L a = L b then (if O a - O b = m then 1 else 2)
  else if 1000000000000000000 < (mjR L O (L a) (L b) (O b + m - O a) G).2.1 - (mjR L O (L a) (L b) (O b + m - O a) G).1 then 3 else 0
theorem l_judgedAs (h : ia_H) (s a b G : Nat) (hs : s < 132) (ha : a < 41) (hb : b < 41) (hG : G ≤ 41) (eG : h.1 52 4 = nI G) (sh : Int64) {Z : Option Value → ia_H → Prop} (hZ : Z (some (.int (if 1000000000000000000 < (mjR (h.1 60) (h.2 61) (h.1 60 a) (h.1 60 b) sh G).2.1 - (mjR (h.1 60) (h.2 61) (h.1 60 a) (h.1 60 b) sh G).1 then 3 else 0))) h) : ∀ k g : Nat, g + k = G → ∀ (lo hi : Int64) (f : Bool) (w : Option Value), (lo, hi, f) = mjR (h.1 60) (h.2 61) (h.1 60 a) (h.1 60 b) sh g → R_ ia_k_X8_judgedAs Z (92, [some (.ref 52), some (.int (nI s)), some (.int (nI a)), some (.int (nI b)), some (.long sh), none, some (.long lo), none, some (.long hi), none, some (.int (bif f then 1 else 0)), some (.int (nI g)), w, none], [], h) := by
  intro k
  induction k with
  | zero =>
    intro g hg lo hi f w hm
    have eg : g = G := by omega
    subst eg
    rw [← hm] at hZ
    refine ia_walk (fun pc => Nat.beq pc 92) 50 (fun X hX => ?_)
    conv => whnf
    refine And.intro (fun c => ?_) (fun c => ?_)
    · exact absurd c (by show ¬ nI g < h.1 52 4; rw [eG]; exact nI_nlt (Nat.le_refl g) (by omega))
    · conv => whnf
      refine And.intro (fun c2 => ?_) (fun c2 => ?_)
      · conv => whnf
        exact (by rw [if_pos ((lg_cmp_gt _ _).mp c2)] at hZ; exact hZ)
      · conv => whnf
        exact (by rw [if_neg (fun q => c2 ((lg_cmp_gt _ _).mpr q))] at hZ; exact hZ)
  | succ k ih =>
    intro g hg lo hi f w hm
    have step : ∀ (lo2 hi2 : Int64) (f2 : Bool) (w2 : Option Value), (lo2, hi2, f2) = mjR (h.1 60) (h.2 61) (h.1 60 a) (h.1 60 b) sh (g + 1) → R_ ia_k_X8_judgedAs Z (221, [some (.ref 52), some (.int (nI s)), some (.int (nI a)), some (.int (nI b)), some (.long sh), none, some (.long lo2), none, some (.long hi2), none, some (.int (bif f2 then 1 else 0)), some (.int (nI g)), w2, none], [], h) := by
      intro lo2 hi2 f2 w2 h2
      refine ia_walk (fun pc => Nat.beq pc 92) 50 (fun X hX => ?_)
      conv => whnf
      rw [nI_1]
      exact hX _ (ih (g + 1) (by omega) lo2 hi2 f2 w2 h2)
    have val : ∀ x : Int64, ((if f = true ∨ x < lo then x else lo, if f = true ∨ hi < x then x else hi, false) : Int64 × Int64 × Bool) = mjR (h.1 60) (h.2 61) (h.1 60 a) (h.1 60 b) sh (g + 1) → R_ ia_k_X8_judgedAs Z (172, [some (.ref 52), some (.int (nI s)), some (.int (nI a)), some (.int (nI b)), some (.long sh), none, some (.long lo), none, some (.long hi), none, some (.int (bif f then 1 else 0)), some (.int (nI g)), w, none], [.long x], h) := by
      intro x hx
      cases f with
      | true =>
        refine ia_walk (fun pc => Nat.beq pc 221) 50 (fun X hX => ?_)
        conv => whnf
        refine And.intro (fun c => ?_) (fun c => ?_)
        · exact absurd c (by decide)
        · conv => whnf
          refine And.intro (fun c2 => ?_) (fun c2 => ?_)
          · exact absurd c2 (by decide)
          · conv => whnf
            exact hX _ (step x x false (some (.long x)) (by rw [← hx]; simp))
      | false =>
        refine ia_walk (fun pc => Nat.beq pc 221) 50 (fun X hX => ?_)
        conv => whnf
        refine And.intro (fun c => ?_) (fun c => ?_)
        · conv => whnf
          refine And.intro (fun c2 => ?_) (fun c2 => ?_)
          · conv => whnf
            refine And.intro (fun c3 => ?_) (fun c3 => ?_)
            · conv => whnf
              refine And.intro (fun c4 => ?_) (fun c4 => ?_)
              · conv => whnf
                exact hX _ (step x x false (some (.long x)) (by rw [← hx, if_pos (Or.inr ((lg_cmp_lt _ _).mp c2)), if_pos (Or.inr ((lg_cmp_gt _ _).mp c4))]))
              · conv => whnf
                exact hX _ (step x hi false (some (.long x)) (by rw [← hx, if_pos (Or.inr ((lg_cmp_lt _ _).mp c2)), if_neg (fun q => q.elim (fun z => by cases z) (fun z => c4 ((lg_cmp_gt _ _).mpr z)))]))
            · exact absurd rfl c3
          · conv => whnf
            refine And.intro (fun c3 => ?_) (fun c3 => ?_)
            · conv => whnf
              refine And.intro (fun c4 => ?_) (fun c4 => ?_)
              · conv => whnf
                exact hX _ (step lo x false (some (.long x)) (by rw [← hx, if_neg (fun q => q.elim (fun z => by cases z) (fun z => c2 ((lg_cmp_lt _ _).mpr z))), if_pos (Or.inr ((lg_cmp_gt _ _).mp c4))]))
              · conv => whnf
                exact hX _ (step lo hi false (some (.long x)) (by rw [← hx, if_neg (fun q => q.elim (fun z => by cases z) (fun z => c2 ((lg_cmp_lt _ _).mpr z))), if_neg (fun q => q.elim (fun z => by cases z) (fun z => c4 ((lg_cmp_gt _ _).mpr z)))]))
            · exact absurd rfl c3
        · exact absurd rfl c
    have from136 : ((if h.1 60 g = h.1 60 a then (if f = true ∨ h.2 61 g + sh < lo then h.2 61 g + sh else lo, if f = true ∨ hi < h.2 61 g + sh then h.2 61 g + sh else hi, false) else (if f = true ∨ h.2 61 g < lo then h.2 61 g else lo, if f = true ∨ hi < h.2 61 g then h.2 61 g else hi, false)) : Int64 × Int64 × Bool) = mjR (h.1 60) (h.2 61) (h.1 60 a) (h.1 60 b) sh (g + 1) → R_ ia_k_X8_judgedAs Z (136, [some (.ref 52), some (.int (nI s)), some (.int (nI a)), some (.int (nI b)), some (.long sh), none, some (.long lo), none, some (.long hi), none, some (.int (bif f then 1 else 0)), some (.int (nI g)), w, none], [], h) := by
      intro h6
      refine ia_walk (fun pc => Nat.beq pc 172) 50 (fun X hX => ?_)
      conv => whnf
      refine Exists.intro _ (And.intro (And.intro rfl (by omega)) ?_)
      conv => whnf
      refine Exists.intro _ (And.intro (And.intro rfl (ha)) ?_)
      conv => whnf
      refine And.intro (fun c => ?_) (fun c => ?_)
      · rw [if_pos c] at h6
        conv => whnf
        refine Exists.intro _ (And.intro (And.intro rfl (by omega)) ?_)
        conv => whnf
        exact hX _ (val _ h6)
      · rw [if_neg c] at h6
        conv => whnf
        refine Exists.intro _ (And.intro (And.intro rfl (by omega)) ?_)
        conv => whnf
        exact hX _ (val _ h6)
    refine ia_walk (fun pc => Nat.beq pc 136 || Nat.beq pc 221) 50 (fun X hX => ?_)
    conv => whnf
    refine And.intro (fun c => ?_) (fun c => ?_)
    · conv => whnf
      refine Exists.intro _ (And.intro (And.intro rfl (by omega)) ?_)
      conv => whnf
      refine Exists.intro _ (And.intro (And.intro rfl (ha)) ?_)
      conv => whnf
      refine And.intro (fun c1 => ?_) (fun c1 => ?_)
      · conv => whnf
        exact hX _ (from136 (by rw [if_pos c1]; show _ = mjR _ _ _ _ _ (g + 1); rw [mjR, ← hm]; simp only [if_pos (show h.1 60 g = h.1 60 a from c1)]))
      · conv => whnf
        refine Exists.intro _ (And.intro (And.intro rfl (by omega)) ?_)
        conv => whnf
        refine Exists.intro _ (And.intro (And.intro rfl (hb)) ?_)
        conv => whnf
        refine And.intro (fun c2 => ?_) (fun c2 => ?_)
        · conv => whnf
          exact hX _ (from136 (by rw [if_neg c1]; show _ = mjR _ _ _ _ _ (g + 1); rw [mjR, ← hm]; simp only [if_neg (show ¬ h.1 60 g = h.1 60 a from c1), if_pos (show h.1 60 g = h.1 60 b from c2)]))
        · conv => whnf
          exact hX _ (step lo hi f w (by rw [mjR, ← hm]; simp only [if_neg (show ¬ h.1 60 g = h.1 60 a from c1), if_neg (show ¬ h.1 60 g = h.1 60 b from c2)]))
    · exact absurd (by show nI g < h.1 52 4; rw [eG]; exact nI_lt (by omega) (by omega)) c
theorem v_judgedAs (h : ia_H) (s a b G : Nat) (hs : s < 132) (ha : a < 41) (hb : b < 41) (hG : G ≤ 41) (eG : h.1 52 4 = nI G) (e1 : h.1 56 s = nI a) (e2 : h.1 57 s = nI b) : V_ 115 [.ref 52, .int (nI s)] h (Z_ (.int (mjF (h.1 60) (h.2 61) G a b (h.2 58 s))) h) := by
  refine ia_V_in ia_k_X8_judgedAs [some (.ref 52), some (.int (nI s)), none, none, none, none, none, none, none, none, none, none, none, none] rfl rfl (Nat.le_of_ble_eq_true rfl) rfl ?_
  refine ia_walk (fun pc => Nat.beq pc 92) 90 (fun X hX => ?_)
  conv => whnf
  refine Exists.intro _ (And.intro (And.intro rfl (hs)) ?_)
  conv => whnf
  refine Exists.intro _ (And.intro (And.intro rfl (hs)) ?_)
  conv => whnf
  refine Exists.intro (a) (And.intro (And.intro (e1) (ha)) ?_)
  conv => whnf
  refine Exists.intro (b) (And.intro (And.intro (e2) (hb)) ?_)
  conv => whnf
  refine And.intro (fun c => ?_) (fun c => ?_)
  · conv => whnf
    refine Exists.intro (a) (And.intro (And.intro (e1) (ha)) ?_)
    conv => whnf
    refine Exists.intro (b) (And.intro (And.intro (e2) (hb)) ?_)
    conv => whnf
    refine Exists.intro _ (And.intro (And.intro rfl (hs)) ?_)
    conv => whnf
    refine And.intro (fun c2 => ?_) (fun c2 => ?_)
    · conv => whnf
      exact ⟨by unfold mjF; rw [if_pos c, if_pos ((lg_cmp_eq _ _).mp c2)], rfl⟩
    · conv => whnf
      exact ⟨by unfold mjF; rw [if_pos c, if_neg (fun q => c2 ((lg_cmp_eq _ _).mpr q))], rfl⟩
  · conv => whnf
    refine Exists.intro (b) (And.intro (And.intro (e2) (hb)) ?_)
    conv => whnf
    refine Exists.intro _ (And.intro (And.intro rfl (hs)) ?_)
    conv => whnf
    refine Exists.intro (a) (And.intro (And.intro (e1) (ha)) ?_)
    conv => whnf
    rw [e1, e2]
    exact hX _ (l_judgedAs h s a b G hs ha hb hG eG _ ⟨by unfold mjF; rw [if_neg c], rfl⟩ G 0 (by omega) 0 0 true none rfl)
end
section
/-! The reference's joins and judges -/
def mgL (L : Nat → Int32) (p q x : Int32) (n : Nat) : Nat → Int32 := fun j => if j < n ∧ (L j = p ∨ L j = q) then x else L j
def mgO (L : Nat → Int32) (O : Nat → Int64) (p q : Int32) (sh dn : Int64) (n : Nat) : Nat → Int64 := fun j => if j < n then (if L j = p then O j + sh - dn else if L j = q then O j - dn else O j) else O j
theorem mgL_0 (L : Nat → Int32) (p q x : Int32) : mgL L p q x 0 = L := by funext j; simp [mgL]
theorem mgO_0 (L : Nat → Int32) (O : Nat → Int64) (p q : Int32) (sh dn : Int64) : mgO L O p q sh dn 0 = O := by funext j; simp [mgO]
theorem mgL_ge {L : Nat → Int32} {p q x : Int32} {n j : Nat} (h : n ≤ j) : mgL L p q x n j = L j := if_neg (fun z => by omega)
theorem mgO_ge {L : Nat → Int32} {O : Nat → Int64} {p q : Int32} {sh dn : Int64} {n j : Nat} (h : n ≤ j) : mgO L O p q sh dn n j = O j := if_neg (fun z => by omega)
theorem mgL_t {L : Nat → Int32} {p q x : Int32} {n : Nat} (h : L n = p ∨ L n = q) : upd (mgL L p q x n) n x = mgL L p q x (n + 1) := by
  funext j
  simp only [upd, mgL]
  by_cases hj : j = n
  · subst hj; rw [if_pos rfl, if_pos ⟨Nat.lt_succ_self j, h⟩]
  · rw [if_neg hj]
    by_cases hl : j < n
    · simp [hl, Nat.lt_succ_of_lt hl]
    · rw [if_neg (fun z => hl z.1), if_neg (fun z => hl (by omega))]
theorem mgL_f {L : Nat → Int32} {p q x : Int32} {n : Nat} (h : ¬ (L n = p ∨ L n = q)) : mgL L p q x n = mgL L p q x (n + 1) := by
  funext j
  simp only [mgL]
  by_cases hj : j = n
  · subst hj; rw [if_neg (fun z => absurd z.1 (Nat.lt_irrefl j)), if_neg (fun z => h z.2)]
  · by_cases hl : j < n
    · simp [hl, Nat.lt_succ_of_lt hl]
    · rw [if_neg (fun z => hl z.1), if_neg (fun z => hl (by omega))]
theorem mgO_s {L : Nat → Int32} {O : Nat → Int64} {p q : Int32} {sh dn : Int64} {n : Nat} {v : Int64} (h : v = if L n = p then O n + sh - dn else if L n = q then O n - dn else O n) : vp_updL (mgO L O p q sh dn n) n v = mgO L O p q sh dn (n + 1) := by
  funext j
  simp only [vp_updL, mgO]
  by_cases hj : j = n
  · subst hj; rw [if_pos rfl, if_pos (Nat.lt_succ_self j), h]
  · rw [if_neg hj]
    by_cases hl : j < n
    · rw [if_pos hl, if_pos (Nat.lt_succ_of_lt hl)]
    · rw [if_neg hl, if_neg (by omega)]
theorem mgO_f {L : Nat → Int32} {O : Nat → Int64} {p q : Int32} {sh dn : Int64} {n : Nat} (h : ¬ (L n = p ∨ L n = q)) : mgO L O p q sh dn n = mgO L O p q sh dn (n + 1) := by
  funext j
  simp only [mgO]
  by_cases hj : j = n
  · subst hj; rw [if_neg (Nat.lt_irrefl j), if_pos (Nat.lt_succ_self j), if_neg (fun z => h (Or.inl z)), if_neg (fun z => h (Or.inr z))]
  · by_cases hl : j < n
    · rw [if_pos hl, if_pos (Nat.lt_succ_of_lt hl)]
    · rw [if_neg hl, if_neg (by omega)]
/-- the heap with groupOf and by put in -/
def hM (h : ia_H) (L : Nat → Int32) (O : Nat → Int64) : ia_H := hsL (hsI h 60 L) 61 O
theorem l_joins (h : ia_H) (s G : Nat) (hG : G ≤ 41) (eG : h.1 52 4 = nI G) (p q x : Int32) (sh dn : Int64) {Z : Option Value → ia_H → Prop} (hZ : Z none (hM h (mgL (h.1 60) p q x G) (mgO (h.1 60) (h.2 61) p q sh dn G))) : ∀ k g : Nat, g + k = G → R_ ia_k_X8_joins Z (93, [some (.ref 52), some (.int (nI s)), some (.int p), some (.int q), some (.long sh), none, some (.int x), some (.long dn), none, some (.int (nI g))], [], hM h (mgL (h.1 60) p q x g) (mgO (h.1 60) (h.2 61) p q sh dn g)) := by
  intro k
  induction k with
  | zero =>
    intro g hg
    have eg : g = G := by omega
    subst eg
    refine ia_walk (fun pc => Nat.beq pc 93) 50 (fun X hX => ?_)
    conv => whnf
    refine And.intro (fun c => ?_) (fun c => ?_)
    · exact absurd c (by show ¬ nI g < h.1 52 4; rw [eG]; exact nI_nlt (Nat.le_refl g) (by omega))
    · conv => whnf
      exact hZ
  | succ k ih =>
    intro g hg
    have eL : mgL (h.1 60) p q x g g = h.1 60 g := mgL_ge (Nat.le_refl g)
    have eO : mgO (h.1 60) (h.2 61) p q sh dn g g = h.2 61 g := mgO_ge (Nat.le_refl g)
    have put : ∀ v : Int64, (h.1 60 g = p ∨ h.1 60 g = q) → (v = if h.1 60 g = p then h.2 61 g + sh - dn else if h.1 60 g = q then h.2 61 g - dn else h.2 61 g) → hsI (hsL (hM h (mgL (h.1 60) p q x g) (mgO (h.1 60) (h.2 61) p q sh dn g)) 61 (vp_updL (mgO (h.1 60) (h.2 61) p q sh dn g) g v)) 60 (upd (mgL (h.1 60) p q x g) g x) = hM h (mgL (h.1 60) p q x (g + 1)) (mgO (h.1 60) (h.2 61) p q sh dn (g + 1)) := by
      intro v h1 h2
      rw [mgO_s h2, mgL_t h1]
      unfold hM
      rw [hsL_same, hsIL, hsI_same]
    refine ia_walk (fun pc => Nat.beq pc 93) 60 (fun X hX => ?_)
    conv => whnf
    refine And.intro (fun c => ?_) (fun c => ?_)
    · conv => whnf
      refine Exists.intro _ (And.intro (And.intro rfl (by omega)) ?_)
      conv => whnf
      refine And.intro (fun c1 => ?_) (fun c1 => ?_)
      · have c1 : h.1 60 g = p := eL.symm.trans c1
        conv => whnf
        refine Exists.intro _ (And.intro (And.intro rfl (by omega)) ?_)
        conv => whnf
        refine Exists.intro _ (And.intro (And.intro rfl (by omega)) ?_)
        conv => whnf
        refine Exists.intro _ (And.intro (And.intro rfl (by omega)) ?_)
        conv => whnf
        rw [nI_1]
        exact hX _ (put (mgO (h.1 60) (h.2 61) p q sh dn g g + sh - dn) (Or.inl c1) (by rw [if_pos c1, eO]) ▸ ih (g + 1) (by omega) : ia_Run _ _ _ _ (93, _, _, hsI (hsL (hM h (mgL (h.1 60) p q x g) (mgO (h.1 60) (h.2 61) p q sh dn g)) 61 (vp_updL (mgO (h.1 60) (h.2 61) p q sh dn g) g (mgO (h.1 60) (h.2 61) p q sh dn g g + sh - dn))) 60 (upd (mgL (h.1 60) p q x g) g x)))
      · have c1 : ¬ h.1 60 g = p := fun z => c1 (eL.trans z)
        conv => whnf
        refine Exists.intro _ (And.intro (And.intro rfl (by omega)) ?_)
        conv => whnf
        refine And.intro (fun c2 => ?_) (fun c2 => ?_)
        · have c2 : h.1 60 g = q := eL.symm.trans c2
          conv => whnf
          refine Exists.intro _ (And.intro (And.intro rfl (by omega)) ?_)
          conv => whnf
          refine Exists.intro _ (And.intro (And.intro rfl (by omega)) ?_)
          conv => whnf
          refine Exists.intro _ (And.intro (And.intro rfl (by omega)) ?_)
          conv => whnf
          rw [nI_1]
          exact hX _ (put (mgO (h.1 60) (h.2 61) p q sh dn g g - dn) (Or.inr c2) (by rw [if_neg c1, if_pos c2, eO]) ▸ ih (g + 1) (by omega) : ia_Run _ _ _ _ (93, _, _, hsI (hsL (hM h (mgL (h.1 60) p q x g) (mgO (h.1 60) (h.2 61) p q sh dn g)) 61 (vp_updL (mgO (h.1 60) (h.2 61) p q sh dn g) g (mgO (h.1 60) (h.2 61) p q sh dn g g - dn))) 60 (upd (mgL (h.1 60) p q x g) g x)))
        · have c2 : ¬ h.1 60 g = q := fun z => c2 (eL.trans z)
          conv => whnf
          rw [nI_1, mgL_f (fun z => z.elim c1 c2), mgO_f (fun z => z.elim c1 c2)]
          exact hX _ (ih (g + 1) (by omega))
    · exact absurd (by show nI g < h.1 52 4; rw [eG]; exact nI_lt (by omega) (by omega)) c
def mqX (L : Nat → Int32) (a b : Nat) : Int32 := if L a < L b then L a else L b
def mqD (L : Nat → Int32) (O : Nat → Int64) (a b la : Nat) (m : Int64) : Int64 := if mqX L a b = L b then 0 else O la + (O b + m - O a)
def mqL (L : Nat → Int32) (G a b : Nat) : Nat → Int32 := mgL L (L a) (L b) (mqX L a b) G
def mqO (L : Nat → Int32) (O : Nat → Int64) (G a b la : Nat) (m : Int64) : Nat → Int64 := mgO L O (L a) (L b) (O b + m - O a) (mqD L O a b la m) G
theorem v_joins (h : ia_H) (s a b G la : Nat) (hs : s < 132) (ha : a < 41) (hb : b < 41) (hG : G ≤ 41) (hla : la < 41) (ela : h.1 60 a = nI la) (eG : h.1 52 4 = nI G) (e1 : h.1 56 s = nI a) (e2 : h.1 57 s = nI b) : V_ 116 [.ref 52, .int (nI s)] h (fun r h' => r = none ∧ h' = hM h (mqL (h.1 60) G a b) (mqO (h.1 60) (h.2 61) G a b la (h.2 58 s))) := by
  have e0 : hM h (mgL (h.1 60) (h.1 60 a) (h.1 60 b) (mqX (h.1 60) a b) 0) (mgO (h.1 60) (h.2 61) (h.1 60 a) (h.1 60 b) (h.2 61 b + h.2 58 s - h.2 61 a) (mqD (h.1 60) (h.2 61) a b la (h.2 58 s)) 0) = h := by
    rw [mgL_0, mgO_0]
    unfold hM
    rw [hsI_eta, hsL_eta]
  have lp := l_joins h s G hG eG (h.1 60 a) (h.1 60 b) (mqX (h.1 60) a b) (h.2 61 b + h.2 58 s - h.2 61 a) (mqD (h.1 60) (h.2 61) a b la (h.2 58 s)) (Z := fun r h' => r = none ∧ h' = hM h (mqL (h.1 60) G a b) (mqO (h.1 60) (h.2 61) G a b la (h.2 58 s))) ⟨rfl, rfl⟩ G 0 (by omega)
  rw [e0] at lp
  refine ia_V_in ia_k_X8_joins [some (.ref 52), some (.int (nI s)), none, none, none, none, none, none, none, none] rfl rfl (Nat.le_of_ble_eq_true rfl) rfl ?_
  refine ia_walk (fun pc => Nat.beq pc 93) 90 (fun X hX => ?_)
  conv => whnf
  refine Exists.intro _ (And.intro (And.intro rfl (hs)) ?_)
  conv => whnf
  refine Exists.intro (a) (And.intro (And.intro (e1) (ha)) ?_)
  conv => whnf
  refine Exists.intro _ (And.intro (And.intro rfl (hs)) ?_)
  conv => whnf
  refine Exists.intro (b) (And.intro (And.intro (e2) (hb)) ?_)
  conv => whnf
  refine Exists.intro _ (And.intro (And.intro rfl (hs)) ?_)
  conv => whnf
  refine Exists.intro (b) (And.intro (And.intro (e2) (hb)) ?_)
  conv => whnf
  refine Exists.intro _ (And.intro (And.intro rfl (hs)) ?_)
  conv => whnf
  refine Exists.intro _ (And.intro (And.intro rfl (hs)) ?_)
  conv => whnf
  refine Exists.intro (a) (And.intro (And.intro (e1) (ha)) ?_)
  conv => whnf
  refine And.intro (fun c => ?_) (fun c => ?_)
  · have ex : mqX (h.1 60) a b = h.1 60 a := if_pos c
    rw [ex] at lp
    conv => whnf
    refine And.intro (fun c2 => ?_) (fun c2 => ?_)
    · have ed : mqD (h.1 60) (h.2 61) a b la (h.2 58 s) = 0 := by unfold mqD; rw [ex, if_pos c2]
      rw [ed] at lp
      conv => whnf
      exact hX _ (lp)
    · conv => whnf
      refine Exists.intro (la) (And.intro (And.intro (ela) (hla)) ?_)
      have ed : mqD (h.1 60) (h.2 61) a b la (h.2 58 s) = h.2 61 la + (h.2 61 b + h.2 58 s - h.2 61 a) := by unfold mqD; rw [ex, if_neg c2]
      rw [ed] at lp
      conv => whnf
      exact hX _ (lp)
  · have ex : mqX (h.1 60) a b = h.1 60 b := if_neg c
    rw [ex] at lp
    conv => whnf
    refine And.intro (fun c2 => ?_) (fun c2 => ?_)
    · have ed : mqD (h.1 60) (h.2 61) a b la (h.2 58 s) = 0 := by unfold mqD; rw [ex, if_pos rfl]
      rw [ed] at lp
      conv => whnf
      exact hX _ (lp)
    · exact absurd rfl c2
end
section
/-! The reference's judges -/
def hN (h : ia_H) (L : Nat → Int32) (O : Nat → Int64) (V : Nat → Int32) : ia_H := hsI (hM h L O) 62 V
theorem hN_put (h : ia_H) (L : Nat → Int32) (O : Nat → Int64) (V W : Nat → Int32) : hsI (hN h L O V) 62 W = hN h L O W := hsI_same _ _ _ _
theorem hN_M (h : ia_H) (L L2 : Nat → Int32) (O O2 : Nat → Int64) (V : Nat → Int32) : hM (hN h L O V) L2 O2 = hN h L2 O2 V := by
  refine Prod.ext (funext fun y => ?_) (funext fun y => ?_)
  · simp only [hM, hN, hsI, hsL]
    by_cases h1 : y = 60
    · subst h1; simp
    · by_cases h2 : y = 62
      · subst h2; simp
      · simp [h1, h2]
  · simp only [hM, hN, hsI, hsL]
    by_cases h1 : y = 61
    · subst h1; simp
    · simp [h1]
def mgS (G : Nat) (A B : Nat → Nat) (m : Nat → Int64) (out : Nat → Int32) (s : Nat) (t : jgT) : jgT :=
  if out s = 0 then (if mjF t.1 t.2.1 G (A s) (B s) (m s) = 0 then (mqL t.1 G (A s) (B s), mqO t.1 t.2.1 G (A s) (B s) (t.1 (A s)).toNatClampNeg (m s), upd t.2.2 s 0) else (t.1, t.2.1, upd t.2.2 s (mjF t.1 t.2.1 G (A s) (B s) (m s)))) else (t.1, t.2.1, upd t.2.2 s 4)
def mgR (G : Nat) (A B : Nat → Nat) (m : Nat → Int64) (out : Nat → Int32) (t : jgT) : Nat → jgT
  | 0 => t
  | s + 1 => mgS G A B m out s (mgR G A B m out t s)
/-- groups are gauges -/
def gOk (L : Nat → Int32) (G : Nat) : Prop := ∀ g, g < G → ∃ l, l < 41 ∧ L g = nI l
theorem mgR_ok {G : Nat} {A B : Nat → Nat} {m : Nat → Int64} {out : Nat → Int32} {t : jgT} {n : Nat} (h0 : gOk t.1 G) (hA : ∀ s, s < n → A s < G) (hB : ∀ s, s < n → B s < G) : ∀ s, s ≤ n → gOk (mgR G A B m out t s).1 G := by
  intro s
  induction s with
  | zero => exact fun _ => h0
  | succ s ih =>
    intro hs
    have ih := ih (by omega)
    rw [mgR]
    generalize mgR G A B m out t s = u at ih
    unfold mgS
    by_cases h1 : out s = 0
    · rw [if_pos h1]
      by_cases h2 : mjF u.1 u.2.1 G (A s) (B s) (m s) = 0
      · rw [if_pos h2]
        intro g hg
        show ∃ l, l < 41 ∧ mqL u.1 G (A s) (B s) g = nI l
        unfold mqL mgL
        by_cases h3 : g < G ∧ (u.1 g = u.1 (A s) ∨ u.1 g = u.1 (B s))
        · rw [if_pos h3]
          unfold mqX
          by_cases h4 : u.1 (A s) < u.1 (B s)
          · rw [if_pos h4]; exact ih _ (hA s (by omega))
          · rw [if_neg h4]; exact ih _ (hB s (by omega))
        · rw [if_neg h3]; exact ih g hg
      · rw [if_neg h2]; exact ih
    · rw [if_neg h1]; exact ih
theorem l_judges (h : ia_H) (n G : Nat) (hn : n ≤ 120) (hG : G ≤ 41) (hst : h.1 52 10 = nI n) (eG : h.1 52 4 = nI G) (A B : Nat → Nat) (hA : ∀ s, s < n → h.1 56 s = nI (A s) ∧ A s < G) (hB : ∀ s, s < n → h.1 57 s = nI (B s) ∧ B s < G) (t0 : jgT) (ht0 : gOk t0.1 G) {Z : Option Value → ia_H → Prop} (hZ : Z none (hN h (mgR G A B (h.2 58) (h.1 59) t0 n).1 (mgR G A B (h.2 58) (h.1 59) t0 n).2.1 (mgR G A B (h.2 58) (h.1 59) t0 n).2.2)) : ∀ k s : Nat, s + k = n → ∀ t : jgT, t = mgR G A B (h.2 58) (h.1 59) t0 s → R_ ia_k_X8_judges Z (32, [some (.ref 52), some (.int (nI s))], [], hN h t.1 t.2.1 t.2.2) := by
  intro k
  induction k with
  | zero =>
    intro s hs t ht
    have es : s = n := by omega
    subst es
    refine ia_walk (fun pc => Nat.beq pc 32) 50 (fun X hX => ?_)
    conv => whnf
    refine And.intro (fun c => ?_) (fun c => ?_)
    · exact absurd c (by show ¬ nI s < h.1 52 10; rw [hst]; exact nI_nlt (Nat.le_refl s) (by omega))
    · conv => whnf
      rw [ht]
      exact hZ
  | succ k ih =>
    intro s hs t ht
    have hok : gOk t.1 G := by rw [ht]; exact mgR_ok (n := n) ht0 (fun s hs => (hA s hs).2) (fun s hs => (hB s hs).2) s (by omega)
    obtain ⟨L, O, V⟩ := t
    have hlt : s < n := by omega
    obtain ⟨a1, a2⟩ := hA s hlt
    obtain ⟨b1, b2⟩ := hB s hlt
    obtain ⟨la, la1, la2⟩ := hok (A s) a2
    have ela : (L (A s)).toNatClampNeg = la := by rw [show L (A s) = nI la from la2]; exact nI_clamp (by omega)
    have tail : ∀ v : Int32, (¬ v = 0 → mgS G A B (h.2 58) (h.1 59) s (L, O, V) = (L, O, upd V s v)) → (v = 0 → mgS G A B (h.2 58) (h.1 59) s (L, O, V) = (mqL L G (A s) (B s), mqO L O G (A s) (B s) la (h.2 58 s), upd V s v)) → R_ ia_k_X8_judges Z (63, [some (.ref 52), some (.int (nI s))], [.int v, .int (nI s), .ref 62], hN h L O V) := by
      intro v hv1 hv2
      refine ia_walk (fun pc => Nat.beq pc 32) 50 (fun X hX => ?_)
      conv => whnf
      refine Exists.intro _ (And.intro (And.intro rfl (by omega)) ?_)
      conv => whnf
      refine Exists.intro _ (And.intro (And.intro rfl (by omega)) ?_)
      have ev : upd V s v s = v := by simp [upd]
      conv => whnf
      refine And.intro (fun c => ?_) (fun c => ?_)
      · have c0 : v = 0 := ev.symm.trans c
        conv => whnf
        have hj := v_joins (hN h L O (upd V s v)) s (A s) (B s) G la (by omega) (by omega) (by omega) hG la1 la2 eG a1 b1
        rw [← hN_put h L O V] at hj
        refine Exists.intro (_, _) (And.intro (ia_callE (r0 := none) (h0 := hN h (mqL L G (A s) (B s)) (mqO L O G (A s) (B s) la (h.2 58 s)) (upd V s v)) ?_) ?_)
        · obtain ⟨r, h2, g1, g2, g3⟩ := hj
          refine ⟨r, h2, g1, g2, ?_⟩
          rw [g3, hN_put, hN_M]
          rfl
        · conv => whnf
          rw [nI_1]
          refine hX _ (ih (s + 1) (by omega) (mqL L G (A s) (B s), mqO L O G (A s) (B s) la (h.2 58 s), upd V s v) ?_)
          rw [mgR, ← ht, hv2 c0]
      · conv => whnf
        rw [nI_1]
        have e := hN_put h L O V (upd V s v)
        refine hX _ (e ▸ ih (s + 1) (by omega) (L, O, upd V s v) ?_ : ia_Run _ _ _ _ (32, _, _, hsI (hN h L O V) 62 (upd V s v)))
        rw [mgR, ← ht, hv1 (fun q => c (ev.trans q))]
    refine ia_walk (fun pc => Nat.beq pc 63) 50 (fun X hX => ?_)
    conv => whnf
    refine And.intro (fun c => ?_) (fun c => ?_)
    · conv => whnf
      refine Exists.intro _ (And.intro (And.intro rfl (by omega)) ?_)
      conv => whnf
      refine And.intro (fun c2 => ?_) (fun c2 => ?_)
      · have hw := v_judgedAs (hN h L O V) s (A s) (B s) G (by omega) (by omega) (by omega) hG eG a1 b1
        conv => whnf
        obtain ⟨v, ev, ec⟩ := ia_callN (f := Value.int) hw
        refine Exists.intro (_, _) (And.intro ec ?_)
        have ev : v = mjF L O G (A s) (B s) (h.2 58 s) := ev
        have c2 : h.1 59 s = 0 := c2
        conv => whnf
        refine hX _ (tail v (fun q => ?_) (fun q => ?_))
        · unfold mgS
          rw [if_pos c2, if_neg (by rw [← ev]; exact q), ← ev]
        · unfold mgS
          rw [if_pos c2, if_pos (by rw [← ev]; exact q), q]
          show (_, mqO L O G (A s) (B s) (L (A s)).toNatClampNeg (h.2 58 s), _) = _
          rw [ela]
      · have c2 : ¬ h.1 59 s = 0 := c2
        conv => whnf
        refine hX _ (tail 4 (fun q => ?_) (fun q => absurd q (by decide)))
        unfold mgS
        rw [if_neg c2]
    · exact absurd (by show nI s < h.1 52 10; rw [hst]; exact nI_lt hlt (by omega)) c
theorem l_judges0 (h : ia_H) (G : Nat) (hG : G ≤ 41) (eG : h.1 52 4 = nI G) {Z : Option Value → ia_H → Prop} (hN0 : R_ ia_k_X8_judges Z (32, [some (.ref 52), some (.int 0)], [], hM h (jgL (h.1 60) G) (jgO (h.2 61) G))) : ∀ k g : Nat, g + k = G → R_ ia_k_X8_judges Z (2, [some (.ref 52), some (.int (nI g))], [], hM h (jgL (h.1 60) g) (jgO (h.2 61) g)) := by
  intro k
  induction k with
  | zero =>
    intro g hg
    have eg : g = G := by omega
    subst eg
    refine ia_walk (fun pc => Nat.beq pc 32) 50 (fun X hX => ?_)
    conv => whnf
    refine And.intro (fun c => ?_) (fun c => ?_)
    · exact absurd c (by show ¬ nI g < h.1 52 4; rw [eG]; exact nI_nlt (Nat.le_refl g) (by omega))
    · conv => whnf
      exact hX _ (hN0)
  | succ k ih =>
    intro g hg
    refine ia_walk (fun pc => Nat.beq pc 2) 50 (fun X hX => ?_)
    conv => whnf
    refine And.intro (fun c => ?_) (fun c => ?_)
    · conv => whnf
      refine Exists.intro _ (And.intro (And.intro rfl (by omega)) ?_)
      conv => whnf
      refine Exists.intro _ (And.intro (And.intro rfl (by omega)) ?_)
      conv => whnf
      rw [nI_1]
      have e : hsL (hsI (hM h (jgL (h.1 60) g) (jgO (h.2 61) g)) 60 (upd (jgL (h.1 60) g) g (nI g))) 61 (vp_updL (jgO (h.2 61) g) g 0) = hM h (jgL (h.1 60) (g + 1)) (jgO (h.2 61) (g + 1)) := by
        rw [jgL_s, jgO_s]
        unfold hM
        rw [hsIL, hsL_same, hsI_same]
      exact hX _ (e ▸ ih (g + 1) (by omega) : ia_Run _ _ _ _ (2, _, _, hsL (hsI (hM h (jgL (h.1 60) g) (jgO (h.2 61) g)) 60 (upd (jgL (h.1 60) g) g (nI g))) 61 (vp_updL (jgO (h.2 61) g) g 0)))
    · exact absurd (by show nI g < h.1 52 4; rw [eG]; exact nI_lt (by omega) (by omega)) c
def mgW (h : ia_H) (G : Nat) (A B : Nat → Nat) (n : Nat) : jgT := mgR G A B (h.2 58) (h.1 59) (jgL (h.1 60) G, jgO (h.2 61) G, h.1 62) n
theorem v_judges (h : ia_H) (n G : Nat) (hn : n ≤ 120) (hG : G ≤ 41) (hst : h.1 52 10 = nI n) (eG : h.1 52 4 = nI G) (A B : Nat → Nat) (hA : ∀ s, s < n → h.1 56 s = nI (A s) ∧ A s < G) (hB : ∀ s, s < n → h.1 57 s = nI (B s) ∧ B s < G) : V_ 117 [.ref 52] h (fun r h' => r = none ∧ h' = hN h (mgW h G A B n).1 (mgW h G A B n).2.1 (mgW h G A B n).2.2) := by
  refine ia_V_in ia_k_X8_judges [some (.ref 52), none] rfl rfl (Nat.le_of_ble_eq_true rfl) rfl ?_
  refine ia_walk (fun pc => Nat.beq pc 2) 50 (fun X hX => ?_)
  conv => whnf
  have e : hM h (jgL (h.1 60) 0) (jgO (h.2 61) 0) = h := by
    rw [jgL_0, jgO_0]
    unfold hM
    rw [hsI_eta, hsL_eta]
  have e2 : hN h (jgL (h.1 60) G) (jgO (h.2 61) G) (h.1 62) = hM h (jgL (h.1 60) G) (jgO (h.2 61) G) := hsI_eta (hM h (jgL (h.1 60) G) (jgO (h.2 61) G)) 62
  have key := l_judges0 h G hG eG (Z := fun r h' => r = none ∧ h' = hN h (mgW h G A B n).1 (mgW h G A B n).2.1 (mgW h G A B n).2.2) (by
    rw [← e2]
    exact l_judges h n G hn hG hst eG A B hA hB _ (fun g hg => ⟨g, by omega, by show (if g < G then nI g else _) = nI g; rw [if_pos hg]⟩) ⟨rfl, rfl⟩ n 0 (by omega) (jgL (h.1 60) G, jgO (h.2 61) G, h.1 62) rfl) G 0 (by omega)
  rw [e] at key
  exact hX _ key
end
section
/-! Both judge alike -/
theorem lT_add {x y : Int64} (h1 : -9223372036854775808 ≤ x.toInt + y.toInt) (h2 : x.toInt + y.toInt < 9223372036854775808) : (x + y).toInt = x.toInt + y.toInt := by
  rw [Int64.toInt_add]
  exact Int.bmod_eq_of_le (by omega) (by omega)
theorem lT_sub {x y : Int64} (h1 : -9223372036854775808 ≤ x.toInt - y.toInt) (h2 : x.toInt - y.toInt < 9223372036854775808) : (x - y).toInt = x.toInt - y.toInt := by
  rw [Int64.toInt_sub]
  exact Int.bmod_eq_of_le (by omega) (by omega)
/-- groups as they always are: l the least gauge of each -/
def gIl (l : Nat → Nat) (L : Nat → Int32) (O : Nat → Int64) : Prop := (∀ g, g < 41 → l g ≤ g ∧ L g = nI (l g) ∧ l (l g) = l g ∧ O (l g) = 0) ∧ ∀ g k, g < 41 → k < 41 → l g = l k → (O g).toInt - (O k).toInt ≤ 1000000000000000000
theorem gIl_O {l : Nat → Nat} {L : Nat → Int32} {O : Nat → Int64} (h : gIl l L O) {g : Nat} (hg : g < 41) : -1000000000000000000 ≤ (O g).toInt ∧ (O g).toInt ≤ 1000000000000000000 := by
  obtain ⟨h1, -, h3, h4⟩ := h.1 g hg
  have a1 := h.2 g (l g) hg (by omega) h3.symm
  have a2 := h.2 (l g) g (by omega) hg h3
  rw [h4, Int64.toInt_zero] at a1 a2
  omega
theorem gIl_L {l : Nat → Nat} {L : Nat → Int32} {O : Nat → Int64} (h : gIl l L O) {g k : Nat} (hg : g < 41) (hk : k < 41) : L g = L k ↔ l g = l k := by
  obtain ⟨h1, h2, -⟩ := h.1 g hg
  obtain ⟨k1, k2, -⟩ := h.1 k hk
  rw [h2, k2]
  exact nI_eq (by omega) (by omega)
theorem gr_hi_p (L : Nat → Int32) (O : Nat → Int64) (x : Int32) : ∀ n, 0 ≤ (gr_hi L O x n).toInt ∧ (∀ g, g < n → L g = x → (O g).toInt ≤ (gr_hi L O x n).toInt) ∧ (gr_hi L O x n = 0 ∨ ∃ g, g < n ∧ L g = x ∧ O g = gr_hi L O x n)
  | 0 => ⟨Int.le_refl 0, fun g hg => by omega, Or.inl rfl⟩
  | n + 1 => by
    obtain ⟨i1, i2, i3⟩ := gr_hi_p L O x n
    rw [gr_hi]
    by_cases h1 : L n = x
    · rw [if_pos h1]
      by_cases h2 : O n < gr_hi L O x n
      · rw [if_pos h2]
        rw [Int64.lt_iff_toInt_lt] at h2
        refine ⟨i1, fun g hg hx => ?_, i3.imp_right (fun ⟨g, a, b⟩ => ⟨g, by omega, b⟩)⟩
        by_cases hgn : g = n
        · subst hgn; omega
        · exact i2 g (by omega) hx
      · rw [if_neg h2]
        rw [Int64.lt_iff_toInt_lt] at h2
        refine ⟨by omega, fun g hg hx => ?_, Or.inr ⟨n, by omega, h1, rfl⟩⟩
        by_cases hgn : g = n
        · subst hgn; omega
        · have := i2 g (by omega) hx; omega
    · rw [if_neg h1]
      refine ⟨i1, fun g hg hx => ?_, i3.imp_right (fun ⟨g, a, b⟩ => ⟨g, by omega, b⟩)⟩
      by_cases hgn : g = n
      · subst hgn; exact absurd hx h1
      · exact i2 g (by omega) hx
theorem gr_lo_p (L : Nat → Int32) (O : Nat → Int64) (x : Int32) : ∀ n, (gr_lo L O x n).toInt ≤ 0 ∧ (∀ g, g < n → L g = x → (gr_lo L O x n).toInt ≤ (O g).toInt) ∧ (gr_lo L O x n = 0 ∨ ∃ g, g < n ∧ L g = x ∧ O g = gr_lo L O x n)
  | 0 => ⟨Int.le_refl 0, fun g hg => by omega, Or.inl rfl⟩
  | n + 1 => by
    obtain ⟨i1, i2, i3⟩ := gr_lo_p L O x n
    rw [gr_lo]
    by_cases h1 : L n = x
    · rw [if_pos h1]
      by_cases h2 : O n < gr_lo L O x n
      · rw [if_pos h2]
        rw [Int64.lt_iff_toInt_lt] at h2
        refine ⟨by omega, fun g hg hx => ?_, Or.inr ⟨n, by omega, h1, rfl⟩⟩
        by_cases hgn : g = n
        · subst hgn; omega
        · have := i2 g (by omega) hx; omega
      · rw [if_neg h2]
        rw [Int64.lt_iff_toInt_lt] at h2
        refine ⟨i1, fun g hg hx => ?_, i3.imp_right (fun ⟨g, a, b⟩ => ⟨g, by omega, b⟩)⟩
        by_cases hgn : g = n
        · subst hgn; omega
        · exact i2 g (by omega) hx
    · rw [if_neg h1]
      refine ⟨i1, fun g hg hx => ?_, i3.imp_right (fun ⟨g, a, b⟩ => ⟨g, by omega, b⟩)⟩
      by_cases hgn : g = n
      · subst hgn; exact absurd hx h1
      · exact i2 g (by omega) hx
/-- highest, lowest of a gauge's group, attained -/
theorem gr_hi_at {l : Nat → Nat} {L : Nat → Int32} {O : Nat → Int64} (h : gIl l L O) {a : Nat} (ha : a < 41) : (∀ g, g < 41 → L g = L a → (O g).toInt ≤ (gr_hi L O (L a) 41).toInt) ∧ ∃ g, g < 41 ∧ L g = L a ∧ O g = gr_hi L O (L a) 41 := by
  obtain ⟨-, i2, i3⟩ := gr_hi_p L O (L a) 41
  refine ⟨i2, i3.elim (fun e => ?_) id⟩
  obtain ⟨h1, h2, h3, h4⟩ := h.1 a ha
  exact ⟨l a, by omega, (gIl_L h (by omega) ha).mpr h3, by rw [h4, e]⟩
theorem gr_lo_at {l : Nat → Nat} {L : Nat → Int32} {O : Nat → Int64} (h : gIl l L O) {a : Nat} (ha : a < 41) : (∀ g, g < 41 → L g = L a → (gr_lo L O (L a) 41).toInt ≤ (O g).toInt) ∧ ∃ g, g < 41 ∧ L g = L a ∧ O g = gr_lo L O (L a) 41 := by
  obtain ⟨-, i2, i3⟩ := gr_lo_p L O (L a) 41
  refine ⟨i2, i3.elim (fun e => ?_) id⟩
  obtain ⟨h1, h2, h3, h4⟩ := h.1 a ha
  exact ⟨l a, by omega, (gIl_L h (by omega) ha).mpr h3, by rw [h4, e]⟩
/-- a gauge's value, once the groups of la and lb are one -/
def jv (L : Nat → Int32) (O : Nat → Int64) (la : Int32) (sh : Int64) (g : Nat) : Int := if L g = la then (O g).toInt + sh.toInt else (O g).toInt
theorem mjR_p {L : Nat → Int32} {O : Nat → Int64} {la lb : Int32} {sh : Int64} {G : Nat} (hv : ∀ g, g < G → L g = la → (O g + sh).toInt = (O g).toInt + sh.toInt) : ∀ n, n ≤ G → ∀ lo hi f, mjR L O la lb sh n = (lo, hi, f) → (f = true ∧ ∀ g, g < n → ¬ (L g = la ∨ L g = lb)) ∨ (f = false ∧ (∀ g, g < n → (L g = la ∨ L g = lb) → lo.toInt ≤ jv L O la sh g ∧ jv L O la sh g ≤ hi.toInt) ∧ (∃ g, g < n ∧ (L g = la ∨ L g = lb) ∧ jv L O la sh g = lo.toInt) ∧ ∃ g, g < n ∧ (L g = la ∨ L g = lb) ∧ jv L O la sh g = hi.toInt)
  | 0, _, lo, hi, f, h => by
    rw [mjR] at h
    cases h
    exact Or.inl ⟨rfl, fun g hg => by omega⟩
  | n + 1, hn, lo2, hi2, f2, h => by
    rw [mjR] at h
    obtain ⟨⟨lo, hi, f⟩, hm⟩ : ∃ q, mjR L O la lb sh n = q := ⟨_, rfl⟩
    rw [hm] at h
    simp only at h
    have ih := mjR_p hv n (by omega) lo hi f hm
    have put : ∀ x : Int64, (L n = la ∨ L n = lb) → x.toInt = jv L O la sh n → ((if f = true ∨ x < lo then x else lo, if f = true ∨ hi < x then x else hi, false) : Int64 × Int64 × Bool) = (lo2, hi2, f2) → f2 = false ∧ (∀ g, g < n + 1 → (L g = la ∨ L g = lb) → lo2.toInt ≤ jv L O la sh g ∧ jv L O la sh g ≤ hi2.toInt) ∧ (∃ g, g < n + 1 ∧ (L g = la ∨ L g = lb) ∧ jv L O la sh g = lo2.toInt) ∧ ∃ g, g < n + 1 ∧ (L g = la ∨ L g = lb) ∧ jv L O la sh g = hi2.toInt := by
      intro x hin hx hp
      simp only [Prod.mk.injEq] at hp
      obtain ⟨p1, p2, p3⟩ := hp
      refine ⟨p3.symm, ?_⟩
      rcases ih with ⟨if1, i2⟩ | ⟨if1, i2, ⟨g1, j1, j2, j3⟩, ⟨g2, k1, k2, k3⟩⟩
      · rw [if_pos (Or.inl if1)] at p1 p2
        subst p1; subst p2
        refine ⟨fun g hg hgi => ?_, ⟨n, by omega, hin, hx.symm⟩, ⟨n, by omega, hin, hx.symm⟩⟩
        by_cases hgn : g = n
        · subst hgn; omega
        · exact absurd hgi (i2 g (by omega))
      · have hlo : lo2.toInt ≤ lo.toInt ∧ lo2.toInt ≤ x.toInt ∧ (lo2 = lo ∨ lo2 = x) := by
          by_cases hc : x < lo
          · rw [if_pos (Or.inr hc)] at p1; subst p1
            rw [Int64.lt_iff_toInt_lt] at hc
            exact ⟨by omega, by omega, Or.inr rfl⟩
          · rw [if_neg (fun q => q.elim (fun z => by rw [if1] at z; cases z) hc)] at p1; subst p1
            rw [Int64.lt_iff_toInt_lt] at hc
            exact ⟨by omega, by omega, Or.inl rfl⟩
        have hhi : hi.toInt ≤ hi2.toInt ∧ x.toInt ≤ hi2.toInt ∧ (hi2 = hi ∨ hi2 = x) := by
          by_cases hc : hi < x
          · rw [if_pos (Or.inr hc)] at p2; subst p2
            rw [Int64.lt_iff_toInt_lt] at hc
            exact ⟨by omega, by omega, Or.inr rfl⟩
          · rw [if_neg (fun q => q.elim (fun z => by rw [if1] at z; cases z) hc)] at p2; subst p2
            rw [Int64.lt_iff_toInt_lt] at hc
            exact ⟨by omega, by omega, Or.inl rfl⟩
        refine ⟨fun g hg hgi => ?_, ?_, ?_⟩
        · by_cases hgn : g = n
          · subst hgn; omega
          · have := i2 g (by omega) hgi; omega
        · rcases hlo.2.2 with e | e
          · exact ⟨g1, by omega, j2, by rw [j3, e]⟩
          · exact ⟨n, by omega, hin, by rw [e, hx]⟩
        · rcases hhi.2.2 with e | e
          · exact ⟨g2, by omega, k2, by rw [k3, e]⟩
          · exact ⟨n, by omega, hin, by rw [e, hx]⟩
    by_cases h1 : L n = la
    · rw [if_pos h1] at h
      exact Or.inr (put (O n + sh) (Or.inl h1) (by unfold jv; rw [if_pos h1]; exact hv n (by omega) h1) h)
    · rw [if_neg h1] at h
      by_cases h2 : L n = lb
      · rw [if_pos h2] at h
        exact Or.inr (put (O n) (Or.inr h2) (by unfold jv; rw [if_neg h1]) h)
      · rw [if_neg h2] at h
        cases h
        rcases ih with ⟨if1, i2⟩ | ⟨if1, i2, ⟨g1, j1, j2, j3⟩, ⟨g2, k1, k2, k3⟩⟩
        · refine Or.inl ⟨if1, fun g hg => ?_⟩
          by_cases hgn : g = n
          · subst hgn; exact fun q => q.elim h1 h2
          · exact i2 g (by omega)
        · refine Or.inr ⟨if1, fun g hg hgi => ?_, ⟨g1, by omega, j2, j3⟩, ⟨g2, by omega, k2, k3⟩⟩
          by_cases hgn : g = n
          · subst hgn; exact absurd hgi (fun q => q.elim h1 h2)
          · exact i2 g (by omega) hgi
/-- what is weighed is the same -/
theorem wg_mj {l : Nat → Nat} {L : Nat → Int32} {O : Nat → Int64} (h : gIl l L O) {G a b : Nat} (hG : G ≤ 41) (ha : a < G) (hb : b < G) (hx : ∀ g, G ≤ g → g < 41 → l g = g) {m : Int64} (hm : -1000000000000000000 ≤ m.toInt ∧ m.toInt ≤ 1000000000000000000) : wgF L O a b m = mjF L O G a b m := by
  unfold wgF mjF
  by_cases hab : L a = L b
  · rw [if_pos hab, if_pos hab]
  · rw [if_neg hab, if_neg hab]
    have oa := gIl_O h (show a < 41 by omega)
    have ob := gIl_O h (show b < 41 by omega)
    have e1 : (O b + m).toInt = (O b).toInt + m.toInt := lT_add (by omega) (by omega)
    have e2 : (O b + m - O a).toInt = (O b).toInt + m.toInt - (O a).toInt := by rw [lT_sub (by omega) (by omega), e1]
    generalize O b + m - O a = sh at e2
    have hsh : -3000000000000000000 ≤ sh.toInt ∧ sh.toInt ≤ 3000000000000000000 := by omega
    have hv : ∀ g, g < G → L g = L a → (O g + sh).toInt = (O g).toInt + sh.toInt := fun g hg _ => by
      have := gIl_O h (show g < 41 by omega)
      exact lT_add (by omega) (by omega)
    have inG : ∀ {g k : Nat}, g < 41 → k < G → L g = L k → g < G := fun {g k} hg hk hL => by
      have e := (gIl_L h hg (show k < 41 by omega)).mp hL
      have q := (h.1 k (by omega)).1
      rcases Nat.lt_or_ge g G with z | z
      · exact z
      · have := hx g z hg; omega
    obtain ⟨hiB, gB, hB1, hB2, hB3⟩ := gr_hi_at h (show b < 41 by omega)
    obtain ⟨hiA, gA, hA1, hA2, hA3⟩ := gr_hi_at h (show a < 41 by omega)
    obtain ⟨loB, kB, lB1, lB2, lB3⟩ := gr_lo_at h (show b < 41 by omega)
    obtain ⟨loA, kA, lA1, lA2, lA3⟩ := gr_lo_at h (show a < 41 by omega)
    obtain ⟨⟨lo, hi, f⟩, hmj⟩ : ∃ q, mjR L O (L a) (L b) sh G = q := ⟨_, rfl⟩
    rw [hmj]
    rcases mjR_p hv G (Nat.le_refl G) lo hi f hmj with ⟨-, i2⟩ | ⟨-, i2, ⟨g1, j1, j2, j3⟩, ⟨g2, k1, k2, k3⟩⟩
    · exact absurd (Or.inl rfl) (i2 a ha)
    · have gA' := gIl_O h hA1
      have kA' := gIl_O h lA1
      have eA : (gr_hi L O (L a) 41 + sh).toInt = (gr_hi L O (L a) 41).toInt + sh.toInt := by rw [← hA3]; exact lT_add (by omega) (by omega)
      have eA2 : (gr_lo L O (L a) 41 + sh).toInt = (gr_lo L O (L a) 41).toInt + sh.toInt := by rw [← lA3]; exact lT_add (by omega) (by omega)
      have hne : ∀ {g : Nat}, L g = L b → ¬ L g = L a := fun q z => hab (z.symm.trans q)
      have jA : ∀ {g : Nat}, L g = L a → jv L O (L a) sh g = (O g).toInt + sh.toInt := fun q => if_pos q
      have jB : ∀ {g : Nat}, L g = L b → jv L O (L a) sh g = (O g).toInt := fun q => if_neg (hne q)
      have eh : mxL (gr_hi L O (L b) 41) (gr_hi L O (L a) 41 + sh) = hi := by
        have u1 := i2 gA (inG hA1 ha hA2) (Or.inl hA2)
        have u2 := i2 gB (inG hB1 hb hB2) (Or.inr hB2)
        rw [jA hA2, hA3] at u1
        rw [jB hB2, hB3] at u2
        have u3 : hi.toInt ≤ (gr_hi L O (L b) 41).toInt ∨ hi.toInt ≤ (gr_hi L O (L a) 41).toInt + sh.toInt := by
          rcases k2 with q | q
          · rw [jA q] at k3
            have := hiA g2 (by omega) q
            exact Or.inr (by omega)
          · rw [jB q] at k3
            have := hiB g2 (by omega) q
            exact Or.inl (by omega)
        apply Int64.toInt_inj.mp
        unfold mxL
        by_cases hc : gr_hi L O (L a) 41 + sh < gr_hi L O (L b) 41
        · rw [if_pos hc]; rw [Int64.lt_iff_toInt_lt, eA] at hc; omega
        · rw [if_neg hc]; rw [Int64.lt_iff_toInt_lt, eA] at hc; rw [eA]; omega
      have el : mnL (gr_lo L O (L b) 41) (gr_lo L O (L a) 41 + sh) = lo := by
        have u1 := i2 kA (inG lA1 ha lA2) (Or.inl lA2)
        have u2 := i2 kB (inG lB1 hb lB2) (Or.inr lB2)
        rw [jA lA2, lA3] at u1
        rw [jB lB2, lB3] at u2
        have u3 : (gr_lo L O (L b) 41).toInt ≤ lo.toInt ∨ (gr_lo L O (L a) 41).toInt + sh.toInt ≤ lo.toInt := by
          rcases j2 with q | q
          · rw [jA q] at j3
            have := loA g1 (by omega) q
            exact Or.inr (by omega)
          · rw [jB q] at j3
            have := loB g1 (by omega) q
            exact Or.inl (by omega)
        apply Int64.toInt_inj.mp
        unfold mnL
        by_cases hc : gr_lo L O (L a) 41 + sh < gr_lo L O (L b) 41
        · rw [if_pos hc]; rw [Int64.lt_iff_toInt_lt, eA2] at hc; rw [eA2]; omega
        · rw [if_neg hc]; rw [Int64.lt_iff_toInt_lt, eA2] at hc; omega
      rw [eh, el]
end
section
/-! Both judge alike: joins, and the whole round -/
theorem mjR_congr {L L2 : Nat → Int32} {O O2 : Nat → Int64} {la lb : Int32} {sh : Int64} : ∀ {n : Nat}, (∀ g, g < n → L2 g = L g ∧ O2 g = O g) → mjR L2 O2 la lb sh n = mjR L O la lb sh n
  | 0, _ => rfl
  | n + 1, h => by rw [mjR, mjR, mjR_congr (fun g hg => h g (by omega)), (h n (by omega)).1, (h n (by omega)).2]
theorem mjF_congr {L L2 : Nat → Int32} {O O2 : Nat → Int64} {G a b : Nat} {m : Int64} (ha : a < G) (hb : b < G) (h : ∀ g, g < G → L2 g = L g ∧ O2 g = O g) : mjF L2 O2 G a b m = mjF L O G a b m := by
  unfold mjF
  rw [(h a ha).1, (h b hb).1, (h a ha).2, (h b hb).2, mjR_congr h]
/-- where it joins: two groups, and nothing beyond -/
theorem wg_0 {l : Nat → Nat} {L : Nat → Int32} {O : Nat → Int64} (h : gIl l L O) {a b : Nat} (ha : a < 41) (hb : b < 41) {m : Int64} (hm : -1000000000000000000 ≤ m.toInt ∧ m.toInt ≤ 1000000000000000000) (h0 : wgF L O a b m = 0) : ¬ L a = L b ∧ (O b + m - O a).toInt = (O b).toInt + m.toInt - (O a).toInt ∧ ∀ g k, g < 41 → k < 41 → (L g = L a ∨ L g = L b) → (L k = L a ∨ L k = L b) → jv L O (L a) (O b + m - O a) g - jv L O (L a) (O b + m - O a) k ≤ 1000000000000000000 := by
  unfold wgF at h0
  by_cases hab : L a = L b
  · rw [if_pos hab] at h0
    by_cases hc : O a - O b = m
    · rw [if_pos hc] at h0; exact absurd h0 (by decide)
    · rw [if_neg hc] at h0; exact absurd h0 (by decide)
  · rw [if_neg hab] at h0
    have oa := gIl_O h ha
    have ob := gIl_O h hb
    have e1 : (O b + m).toInt = (O b).toInt + m.toInt := lT_add (by omega) (by omega)
    have e2 : (O b + m - O a).toInt = (O b).toInt + m.toInt - (O a).toInt := by rw [lT_sub (by omega) (by omega), e1]
    refine ⟨hab, e2, ?_⟩
    generalize O b + m - O a = sh at e2 h0
    have hsh : -3000000000000000000 ≤ sh.toInt ∧ sh.toInt ≤ 3000000000000000000 := by omega
    obtain ⟨hiB, gB, hB1, hB2, hB3⟩ := gr_hi_at h hb
    obtain ⟨hiA, gA, hA1, hA2, hA3⟩ := gr_hi_at h ha
    obtain ⟨loB, kB, lB1, lB2, lB3⟩ := gr_lo_at h hb
    obtain ⟨loA, kA, lA1, lA2, lA3⟩ := gr_lo_at h ha
    have gA' := gIl_O h hA1
    have kA' := gIl_O h lA1
    have gB' := gIl_O h hB1
    have kB' := gIl_O h lB1
    rw [hA3] at gA'; rw [lA3] at kA'; rw [hB3] at gB'; rw [lB3] at kB'
    have eA : (gr_hi L O (L a) 41 + sh).toInt = (gr_hi L O (L a) 41).toInt + sh.toInt := lT_add (by omega) (by omega)
    have eA2 : (gr_lo L O (L a) 41 + sh).toInt = (gr_lo L O (L a) 41).toInt + sh.toInt := lT_add (by omega) (by omega)
    have up : (gr_hi L O (L b) 41).toInt ≤ (mxL (gr_hi L O (L b) 41) (gr_hi L O (L a) 41 + sh)).toInt ∧ (gr_hi L O (L a) 41).toInt + sh.toInt ≤ (mxL (gr_hi L O (L b) 41) (gr_hi L O (L a) 41 + sh)).toInt ∧ (mxL (gr_hi L O (L b) 41) (gr_hi L O (L a) 41 + sh)).toInt ≤ 4000000000000000000 := by
      unfold mxL
      by_cases hc : gr_hi L O (L a) 41 + sh < gr_hi L O (L b) 41
      · rw [if_pos hc]; rw [Int64.lt_iff_toInt_lt, eA] at hc; omega
      · rw [if_neg hc]; rw [Int64.lt_iff_toInt_lt, eA] at hc; rw [eA]; omega
    have dn : (mnL (gr_lo L O (L b) 41) (gr_lo L O (L a) 41 + sh)).toInt ≤ (gr_lo L O (L b) 41).toInt ∧ (mnL (gr_lo L O (L b) 41) (gr_lo L O (L a) 41 + sh)).toInt ≤ (gr_lo L O (L a) 41).toInt + sh.toInt ∧ -4000000000000000000 ≤ (mnL (gr_lo L O (L b) 41) (gr_lo L O (L a) 41 + sh)).toInt := by
      unfold mnL
      by_cases hc : gr_lo L O (L a) 41 + sh < gr_lo L O (L b) 41
      · rw [if_pos hc]; rw [Int64.lt_iff_toInt_lt, eA2] at hc; rw [eA2]; omega
      · rw [if_neg hc]; rw [Int64.lt_iff_toInt_lt, eA2] at hc; omega
    have up2 : -1000000000000000000 ≤ (mxL (gr_hi L O (L b) 41) (gr_hi L O (L a) 41 + sh)).toInt := by omega
    have dn2 : (mnL (gr_lo L O (L b) 41) (gr_lo L O (L a) 41 + sh)).toInt ≤ 1000000000000000000 := by omega
    generalize mxL (gr_hi L O (L b) 41) (gr_hi L O (L a) 41 + sh) = hi at up up2 h0
    generalize mnL (gr_lo L O (L b) 41) (gr_lo L O (L a) 41 + sh) = lo at dn dn2 h0
    have hd : ¬ (1000000000000000000 : Int64) < hi - lo := by
      intro q
      rw [if_pos q] at h0
      exact absurd h0 (by decide)
    rw [Int64.lt_iff_toInt_lt, lT_sub (by omega) (by omega)] at hd
    have hd2 : hi.toInt - lo.toInt ≤ 1000000000000000000 := by
      have e : (1000000000000000000 : Int64).toInt = 1000000000000000000 := by decide
      rw [e] at hd
      omega
    have key : ∀ g, g < 41 → (L g = L a ∨ L g = L b) → jv L O (L a) sh g ≤ hi.toInt ∧ lo.toInt ≤ jv L O (L a) sh g := by
      intro g hg hgi
      unfold jv
      by_cases hga : L g = L a
      · rw [if_pos hga]
        have := hiA g hg hga
        have := loA g hg hga
        omega
      · rw [if_neg hga]
        have hgb := hgi.resolve_left hga
        have := hiB g hg hgb
        have := loB g hg hgb
        omega
    intro g k hg hk h1 h2
    have := key g hg h1
    have := key k hk h2
    omega
/-- least gauges behind a join -/
def jnl (l : Nat → Nat) (a b : Nat) : Nat → Nat := fun g => if l a < l b then (if l g = l b then l a else l g) else (if l g = l a then l b else l g)
theorem jn_at {L : Nat → Int32} {O : Nat → Int64} {a b : Nat} {m : Int64} {g : Nat} (hg : g < 41) : (L a < L b → jnL L a b g = (if L g = L b then L a else L g) ∧ jnO L O a b m g = if L g = L b then O g + -(O b + m - O a) else O g) ∧ (¬ L a < L b → jnL L a b g = (if L g = L a then L b else L g) ∧ jnO L O a b m g = if L g = L a then O g + (O b + m - O a) else O g) := by
  refine ⟨fun c => ?_, fun c => ?_⟩
  · unfold jnL jnO mvL mvO
    rw [if_pos c, if_pos c]
    simp only [hg, true_and]
    try exact ⟨rfl, rfl⟩
  · unfold jnL jnO mvL mvO
    rw [if_neg c, if_neg c]
    simp only [hg, true_and]
    try exact ⟨rfl, rfl⟩
theorem gIl_jn {l : Nat → Nat} {L : Nat → Int32} {O : Nat → Int64} (h : gIl l L O) {a b : Nat} (ha : a < 41) (hb : b < 41) {m : Int64} (hm : -1000000000000000000 ≤ m.toInt ∧ m.toInt ≤ 1000000000000000000) (h0 : wgF L O a b m = 0) : gIl (jnl l a b) (jnL L a b) (jnO L O a b m) := by
  obtain ⟨hab, e2, hd⟩ := wg_0 h ha hb hm h0
  have oa := gIl_O h ha
  have ob := gIl_O h hb
  obtain ⟨a1, a2, a3, a4⟩ := h.1 a ha
  obtain ⟨b1, b2, b3, b4⟩ := h.1 b hb
  have hlab : ¬ l a = l b := fun q => hab ((gIl_L h ha hb).mpr q)
  have hlt : L a < L b ↔ l a < l b := by rw [a2, b2]; exact nI_ltI (by omega) (by omega)
  have hL : ∀ {g k}, g < 41 → k < 41 → (L g = L k ↔ l g = l k) := fun hg hk => gIl_L h hg hk
  have hneg : (-(O b + m - O a)).toInt = -(O b + m - O a).toInt := by
    rw [Int64.toInt_neg]
    exact Int.bmod_eq_of_le (by omega) (by omega)
  by_cases c : L a < L b
  · have cl : l a < l b := hlt.mp c
    refine ⟨fun g hg => ?_, fun g k hg hk hgk => ?_⟩
    · obtain ⟨g1, g2, g3, g4⟩ := h.1 g hg
      have eL := ((jn_at (L := L) (O := O) (a := a) (b := b) (m := m) hg).1 c).1
      simp only [jnl, if_pos cl]
      by_cases hgb : l g = l b
      · rw [if_pos hgb]
        have z : ¬ l (l a) = l b := by rw [a3]; exact hlab
        refine ⟨by omega, by rw [eL, if_pos ((hL hg hb).mpr hgb), a2], by rw [if_neg z, a3], ?_⟩
        rw [((jn_at (L := L) (O := O) (a := a) (b := b) (m := m) (show l a < 41 by omega)).1 c).2, if_neg (fun q => z ((hL (by omega) hb).mp q)), a4]
      · rw [if_neg hgb]
        have z : ¬ l (l g) = l b := by rw [g3]; exact hgb
        refine ⟨g1, by rw [eL, if_neg (fun q => hgb ((hL hg hb).mp q)), g2], by rw [if_neg z, g3], ?_⟩
        rw [((jn_at (L := L) (O := O) (a := a) (b := b) (m := m) (show l g < 41 by omega)).1 c).2, if_neg (fun q => z ((hL (by omega) hb).mp q)), g4]
    · rw [((jn_at (L := L) (O := O) (a := a) (b := b) (m := m) hg).1 c).2, ((jn_at (L := L) (O := O) (a := a) (b := b) (m := m) hk).1 c).2]
      simp only [jnl, if_pos cl] at hgk
      have og := gIl_O h hg
      have ok := gIl_O h hk
      have sg : (O g + -(O b + m - O a)).toInt = (O g).toInt - (O b + m - O a).toInt := by rw [lT_add (by omega) (by omega)]; omega
      have sk : (O k + -(O b + m - O a)).toInt = (O k).toInt - (O b + m - O a).toInt := by rw [lT_add (by omega) (by omega)]; omega
      have dif := hd g k hg hk
      unfold jv at dif
      by_cases h1 : l g = l b
      · have h1' := (hL hg hb).mpr h1
        by_cases h2 : l k = l b
        · have h2' := (hL hk hb).mpr h2
          rw [if_pos h1', if_pos h2', sg, sk]
          have := h.2 g k hg hk (h1.trans h2.symm)
          omega
        · have h2' : ¬ L k = L b := fun q => h2 ((hL hk hb).mp q)
          rw [if_pos h1', if_neg h2', sg]
          rw [if_pos h1, if_neg h2] at hgk
          have ka : L k = L a := (hL hk ha).mpr hgk.symm
          have := dif (Or.inr h1') (Or.inl ka)
          rw [if_neg (fun q => hab (q.symm.trans h1')), if_pos ka] at this
          omega
      · have h1' : ¬ L g = L b := fun q => h1 ((hL hg hb).mp q)
        by_cases h2 : l k = l b
        · have h2' := (hL hk hb).mpr h2
          rw [if_neg h1', if_pos h2', sk]
          rw [if_neg h1, if_pos h2] at hgk
          have ga : L g = L a := (hL hg ha).mpr hgk
          have := dif (Or.inl ga) (Or.inr h2')
          rw [if_pos ga, if_neg (fun q => hab (q.symm.trans h2'))] at this
          omega
        · have h2' : ¬ L k = L b := fun q => h2 ((hL hk hb).mp q)
          rw [if_neg h1', if_neg h2']
          rw [if_neg h1, if_neg h2] at hgk
          exact h.2 g k hg hk hgk
  · have cl : ¬ l a < l b := fun q => c (hlt.mpr q)
    refine ⟨fun g hg => ?_, fun g k hg hk hgk => ?_⟩
    · obtain ⟨g1, g2, g3, g4⟩ := h.1 g hg
      have eL := ((jn_at (L := L) (O := O) (a := a) (b := b) (m := m) hg).2 c).1
      simp only [jnl, if_neg cl]
      by_cases hgb : l g = l a
      · rw [if_pos hgb]
        have z : ¬ l (l b) = l a := by rw [b3]; exact fun q => hlab q.symm
        refine ⟨by omega, by rw [eL, if_pos ((hL hg ha).mpr hgb), b2], by rw [if_neg z, b3], ?_⟩
        rw [((jn_at (L := L) (O := O) (a := a) (b := b) (m := m) (show l b < 41 by omega)).2 c).2, if_neg (fun q => z ((hL (by omega) ha).mp q)), b4]
      · rw [if_neg hgb]
        have z : ¬ l (l g) = l a := by rw [g3]; exact hgb
        refine ⟨g1, by rw [eL, if_neg (fun q => hgb ((hL hg ha).mp q)), g2], by rw [if_neg z, g3], ?_⟩
        rw [((jn_at (L := L) (O := O) (a := a) (b := b) (m := m) (show l g < 41 by omega)).2 c).2, if_neg (fun q => z ((hL (by omega) ha).mp q)), g4]
    · rw [((jn_at (L := L) (O := O) (a := a) (b := b) (m := m) hg).2 c).2, ((jn_at (L := L) (O := O) (a := a) (b := b) (m := m) hk).2 c).2]
      simp only [jnl, if_neg cl] at hgk
      have og := gIl_O h hg
      have ok := gIl_O h hk
      have sg : (O g + (O b + m - O a)).toInt = (O g).toInt + (O b + m - O a).toInt := lT_add (by omega) (by omega)
      have sk : (O k + (O b + m - O a)).toInt = (O k).toInt + (O b + m - O a).toInt := lT_add (by omega) (by omega)
      have dif := hd g k hg hk
      unfold jv at dif
      by_cases h1 : l g = l a
      · have h1' := (hL hg ha).mpr h1
        by_cases h2 : l k = l a
        · have h2' := (hL hk ha).mpr h2
          rw [if_pos h1', if_pos h2', sg, sk]
          have := h.2 g k hg hk (h1.trans h2.symm)
          omega
        · have h2' : ¬ L k = L a := fun q => h2 ((hL hk ha).mp q)
          rw [if_pos h1', if_neg h2', sg]
          rw [if_pos h1, if_neg h2] at hgk
          have kb : L k = L b := (hL hk hb).mpr hgk.symm
          have := dif (Or.inl h1') (Or.inr kb)
          rw [if_pos h1', if_neg h2'] at this
          omega
      · have h1' : ¬ L g = L a := fun q => h1 ((hL hg ha).mp q)
        by_cases h2 : l k = l a
        · have h2' := (hL hk ha).mpr h2
          rw [if_neg h1', if_pos h2', sk]
          rw [if_neg h1, if_pos h2] at hgk
          have gb : L g = L b := (hL hg hb).mpr hgk
          have := dif (Or.inr gb) (Or.inl h2')
          rw [if_neg h1', if_pos h2'] at this
          omega
        · have h2' : ¬ L k = L a := fun q => h2 ((hL hk ha).mp q)
          rw [if_neg h1', if_neg h2']
          rw [if_neg h1, if_neg h2] at hgk
          exact h.2 g k hg hk hgk
/-- class and reference are alike, as far as statements below s have been judged -/
def jgE (G s : Nat) (t u : jgT) : Prop := ∃ l, gIl l t.1 t.2.1 ∧ (∀ g, G ≤ g → g < 41 → l g = g) ∧ (∀ g, g < G → l g < G) ∧ (∀ g, g < G → u.1 g = t.1 g ∧ u.2.1 g = t.2.1 g) ∧ ∀ k, k < s → u.2.2 k = t.2.2 k
theorem wg_val (L : Nat → Int32) (O : Nat → Int64) (a b : Nat) (m : Int64) : wgF L O a b m = 0 ∨ wgF L O a b m = 1 ∨ wgF L O a b m = 2 ∨ wgF L O a b m = 3 := by
  unfold wgF
  by_cases h1 : L a = L b
  · rw [if_pos h1]
    by_cases h2 : O a - O b = m
    · rw [if_pos h2]; simp
    · rw [if_neg h2]; simp
  · rw [if_neg h1]
    generalize mxL _ _ - mnL _ _ = d
    by_cases h2 : 1000000000000000000 < d
    · rw [if_pos h2]; simp
    · rw [if_neg h2]; simp
theorem jgE_s {G s : Nat} (hG : G ≤ 41) {A B : Nat → Nat} {m m2 : Nat → Int64} {out out2 : Nat → Int32} (hA : A s < G) (hB : B s < G) (em : m2 s = m s) (eo : out2 s = out s) (hm : -1000000000000000000 ≤ (m s).toInt ∧ (m s).toInt ≤ 1000000000000000000) {t u : jgT} (h : jgE G s t u) : jgE G (s + 1) (jgS A B m out s t) (mgS G A B m2 out2 s u) := by
  obtain ⟨l, h1, h2, h3, h4, h5⟩ := h
  obtain ⟨L, O, V⟩ := t
  obtain ⟨L2, O2, V2⟩ := u
  simp only at h1 h4 h5
  have vs : ∀ (x : Int32) (k : Nat), k < s + 1 → upd V2 s x k = upd V s x k := by
    intro x k hk
    simp only [upd]
    by_cases hks : k = s
    · rw [if_pos hks, if_pos hks]
    · rw [if_neg hks, if_neg hks]; exact h5 k (by omega)
  unfold jgS mgS
  rw [eo, em]
  by_cases ho : out s = 0
  · rw [if_pos ho, if_pos ho]
    simp only
    have e : mjF L2 O2 G (A s) (B s) (m s) = wgF L O (A s) (B s) (m s) := by rw [mjF_congr hA hB h4, ← wg_mj h1 hG hA hB h2 hm]
    rw [e]
    by_cases hw : wgF L O (A s) (B s) (m s) = 0
    · rw [if_pos hw, if_pos hw]
      obtain ⟨hab, -, -⟩ := wg_0 h1 (show A s < 41 by omega) (show B s < 41 by omega) hm hw
      obtain ⟨a1, a2, a3, a4⟩ := h1.1 (A s) (by omega)
      obtain ⟨b1, b2, b3, b4⟩ := h1.1 (B s) (by omega)
      have hlA := h3 _ hA
      have hlB := h3 _ hB
      refine ⟨jnl l (A s) (B s), gIl_jn h1 (by omega) (by omega) hm hw, fun g g1 g2 => ?_, fun g hg => ?_, fun g hg => ?_, vs 0⟩
      · have e1 := h2 g g1 g2
        unfold jnl
        rw [e1]
        by_cases c : l (A s) < l (B s)
        · rw [if_pos c, if_neg (by omega)]
        · rw [if_neg c, if_neg (by omega)]
      · unfold jnl
        have := h3 g hg
        by_cases c : l (A s) < l (B s)
        · rw [if_pos c]; split <;> omega
        · rw [if_neg c]; split <;> omega
      · have hg41 : g < 41 := by omega
        have ja := jn_at (L := L) (O := O) (a := A s) (b := B s) (m := m s) hg41
        have ela : (L2 (A s)).toNatClampNeg = l (A s) := by rw [(h4 _ hA).1, a2]; exact nI_clamp (by omega)
        show mqL L2 G (A s) (B s) g = jnL L (A s) (B s) g ∧ mqO L2 O2 G (A s) (B s) (L2 (A s)).toNatClampNeg (m s) g = jnO L O (A s) (B s) (m s) g
        rw [ela]
        unfold mqL mqO mgL mgO mqD mqX
        rw [(h4 _ hA).1, (h4 _ hB).1, (h4 _ hA).2, (h4 _ hB).2, (h4 g hg).1, (h4 g hg).2, (h4 _ hlA).2, a4]
        simp only [hg, true_and, if_true]
        by_cases c : L (A s) < L (B s)
        · obtain ⟨j1, j2⟩ := ja.1 c
          rw [j1, j2, if_pos c, if_neg hab, Int64.zero_add]
          by_cases q1 : L g = L (A s)
          · rw [if_pos (Or.inl q1), if_pos q1, if_neg (fun q => hab (q1.symm.trans q)), if_neg (fun q => hab (q1.symm.trans q)), Int64.add_sub_cancel]
            exact ⟨q1.symm, rfl⟩
          · by_cases q2 : L g = L (B s)
            · rw [if_pos (Or.inr q2), if_neg q1, if_pos q2, if_pos q2, if_pos q2]
              exact ⟨rfl, Int64.sub_eq_add_neg _ _⟩
            · rw [if_neg (fun q => q.elim q1 q2), if_neg q1, if_neg q2, if_neg q2, if_neg q2]
              exact ⟨rfl, rfl⟩
        · obtain ⟨j1, j2⟩ := ja.2 c
          rw [j1, j2, if_neg c, if_pos rfl]
          by_cases q1 : L g = L (A s)
          · rw [if_pos (Or.inl q1), if_pos q1, if_pos q1, if_pos q1, Int64.sub_zero]
            exact ⟨rfl, rfl⟩
          · by_cases q2 : L g = L (B s)
            · rw [if_pos (Or.inr q2), if_neg q1, if_pos q2, if_neg q1, if_neg q1, Int64.sub_zero]
              exact ⟨q2.symm, rfl⟩
            · rw [if_neg (fun q => q.elim q1 q2), if_neg q1, if_neg q2, if_neg q1, if_neg q1]
              exact ⟨rfl, rfl⟩
    · rw [if_neg hw, if_neg hw]
      exact ⟨l, h1, h2, h3, h4, vs _⟩
  · rw [if_neg ho, if_neg ho]
    exact ⟨l, h1, h2, h3, h4, vs 4⟩
theorem jgE_n {G n : Nat} (hG : G ≤ 41) {A B : Nat → Nat} {m m2 : Nat → Int64} {out out2 : Nat → Int32} (hA : ∀ s, s < n → A s < G) (hB : ∀ s, s < n → B s < G) (em : ∀ s, s < n → m2 s = m s) (eo : ∀ s, s < n → out2 s = out s) (hm : ∀ s, s < n → -1000000000000000000 ≤ (m s).toInt ∧ (m s).toInt ≤ 1000000000000000000) {t u : jgT} (h : jgE G 0 t u) : ∀ s, s ≤ n → jgE G s (jgR A B m out t s) (mgR G A B m2 out2 u s)
  | 0, _ => h
  | s + 1, hs => jgE_s hG (hA s (by omega)) (hB s (by omega)) (em s (by omega)) (eo s (by omega)) (hm s (by omega)) (jgE_n hG hA hB em eo hm h s (by omega))
theorem jgE_0 (G : Nat) (hG : G ≤ 41) (L L2 : Nat → Int32) (O O2 : Nat → Int64) (V V2 : Nat → Int32) : jgE G 0 (jgL L 41, jgO O 41, V) (jgL L2 G, jgO O2 G, V2) := by
  refine ⟨fun g => g, ⟨fun g hg => ⟨Nat.le_refl g, if_pos hg, rfl, if_pos hg⟩, fun g k hg hk _ => ?_⟩, fun g _ _ => rfl, fun g hg => hg, fun g hg => ⟨?_, ?_⟩, fun k hk => absurd hk (Nat.not_lt_zero k)⟩
  · show (jgO O 41 g).toInt - (jgO O 41 k).toInt ≤ _
    rw [show jgO O 41 g = 0 from if_pos hg, show jgO O 41 k = 0 from if_pos hk]
    decide
  · show jgL L2 G g = jgL L 41 g
    rw [show jgL L2 G g = nI g from if_pos hg, show jgL L 41 g = nI g from if_pos (by omega)]
  · show jgO O2 G g = jgO O 41 g
    rw [show jgO O2 G g = 0 from if_pos hg, show jgO O 41 g = 0 from if_pos (by omega)]
end
section
/-! Small questions, class and reference side by side -/
/-- x is no number below n -/
def bad (x : Int32) (n : Nat) : Prop := x < 0 ∨ nI n ≤ x
theorem bad_or (x : Int32) {n : Nat} (hn : n < 2 ^ 31) : bad x n ∨ ∃ j, j < n ∧ x = nI j := by
  rcases pk_ix x hn with q | q | q
  · exact Or.inl (Or.inl q)
  · exact Or.inl (Or.inr q)
  · exact Or.inr q
theorem v_isSt0 {h : ia_H} {n : Nat} (e : h.1 4 7 = nI n) {x : Int32} (hb : bad x n) : V_ 89 [.ref 0, .int x] h (Z_ (.int 0) h) := by
  refine ia_V_in ia_k_X7_isStatement [some (.ref 0), some (.int x)] rfl rfl (Nat.le_of_ble_eq_true rfl) rfl ?_
  refine ia_walk (fun _ => false) 50 (fun X hX => ?_)
  conv => whnf
  refine And.intro (fun c => ?_) (fun c => ?_)
  · conv => whnf
    exact ⟨Or.inl rfl, rfl, rfl⟩
  · conv => whnf
    refine And.intro (fun c2 => ?_) (fun c2 => ?_)
    · rcases hb with q | q
      · exact absurd q c
      · exact absurd (show x < h.1 4 7 from c2) (by rw [e]; exact Int32.not_lt.mpr q)
    · conv => whnf
      exact ⟨Or.inl rfl, rfl, rfl⟩
theorem v_isSt1 {h : ia_H} {n : Nat} (e : h.1 4 7 = nI n) (hn : n < 2 ^ 31) {j : Nat} (hj : j < n) : V_ 89 [.ref 0, .int (nI j)] h (Z_ (.int 1) h) := by
  refine ia_V_in ia_k_X7_isStatement [some (.ref 0), some (.int (nI j))] rfl rfl (Nat.le_of_ble_eq_true rfl) rfl ?_
  refine ia_walk (fun _ => false) 50 (fun X hX => ?_)
  conv => whnf
  refine And.intro (fun c => ?_) (fun c => ?_)
  · exact absurd c (nI_pos (by omega))
  · conv => whnf
    refine And.intro (fun c2 => ?_) (fun c2 => ?_)
    · conv => whnf
      exact ⟨Or.inr rfl, rfl, rfl⟩
    · exact absurd (show nI j < h.1 4 7 by rw [e]; exact nI_lt hj hn) c2
theorem v_isGa0 {h : ia_H} {n : Nat} (e : h.1 4 6 = nI n) {x : Int32} (hb : bad x n) : V_ 90 [.ref 0, .int x] h (Z_ (.int 0) h) := by
  refine ia_V_in ia_k_X7_isGauge [some (.ref 0), some (.int x)] rfl rfl (Nat.le_of_ble_eq_true rfl) rfl ?_
  refine ia_walk (fun _ => false) 50 (fun X hX => ?_)
  conv => whnf
  refine And.intro (fun c => ?_) (fun c => ?_)
  · conv => whnf
    exact ⟨Or.inl rfl, rfl, rfl⟩
  · conv => whnf
    refine And.intro (fun c2 => ?_) (fun c2 => ?_)
    · rcases hb with q | q
      · exact absurd q c
      · exact absurd (show x < h.1 4 6 from c2) (by rw [e]; exact Int32.not_lt.mpr q)
    · conv => whnf
      exact ⟨Or.inl rfl, rfl, rfl⟩
theorem v_isGa1 {h : ia_H} {n : Nat} (e : h.1 4 6 = nI n) (hn : n < 2 ^ 31) {j : Nat} (hj : j < n) : V_ 90 [.ref 0, .int (nI j)] h (Z_ (.int 1) h) := by
  refine ia_V_in ia_k_X7_isGauge [some (.ref 0), some (.int (nI j))] rfl rfl (Nat.le_of_ble_eq_true rfl) rfl ?_
  refine ia_walk (fun _ => false) 50 (fun X hX => ?_)
  conv => whnf
  refine And.intro (fun c => ?_) (fun c => ?_)
  · exact absurd c (nI_pos (by omega))
  · conv => whnf
    refine And.intro (fun c2 => ?_) (fun c2 => ?_)
    · conv => whnf
      exact ⟨Or.inr rfl, rfl, rfl⟩
    · exact absurd (show nI j < h.1 4 6 by rw [e]; exact nI_lt hj hn) c2
theorem m_isSt0 {h : ia_H} {n : Nat} (e : h.1 52 10 = nI n) {x : Int32} (hb : bad x n) : V_ 118 [.ref 52, .int x] h (Z_ (.int 0) h) := by
  refine ia_V_in ia_k_X8_isStatement [some (.ref 52), some (.int x)] rfl rfl (Nat.le_of_ble_eq_true rfl) rfl ?_
  refine ia_walk (fun _ => false) 50 (fun X hX => ?_)
  conv => whnf
  refine And.intro (fun c => ?_) (fun c => ?_)
  · conv => whnf
    exact ⟨Or.inl rfl, rfl, rfl⟩
  · conv => whnf
    refine And.intro (fun c2 => ?_) (fun c2 => ?_)
    · rcases hb with q | q
      · exact absurd q c
      · exact absurd (show x < h.1 52 10 from c2) (by rw [e]; exact Int32.not_lt.mpr q)
    · conv => whnf
      exact ⟨Or.inl rfl, rfl, rfl⟩
theorem m_isSt1 {h : ia_H} {n : Nat} (e : h.1 52 10 = nI n) (hn : n < 2 ^ 31) {j : Nat} (hj : j < n) : V_ 118 [.ref 52, .int (nI j)] h (Z_ (.int 1) h) := by
  refine ia_V_in ia_k_X8_isStatement [some (.ref 52), some (.int (nI j))] rfl rfl (Nat.le_of_ble_eq_true rfl) rfl ?_
  refine ia_walk (fun _ => false) 50 (fun X hX => ?_)
  conv => whnf
  refine And.intro (fun c => ?_) (fun c => ?_)
  · exact absurd c (nI_pos (by omega))
  · conv => whnf
    refine And.intro (fun c2 => ?_) (fun c2 => ?_)
    · conv => whnf
      exact ⟨Or.inr rfl, rfl, rfl⟩
    · exact absurd (show nI j < h.1 52 10 by rw [e]; exact nI_lt hj hn) c2
theorem m_isGa0 {h : ia_H} {n : Nat} (e : h.1 52 4 = nI n) {x : Int32} (hb : bad x n) : V_ 138 [.ref 52, .int x] h (Z_ (.int 0) h) := by
  refine ia_V_in ia_k_X8_isGauge [some (.ref 52), some (.int x)] rfl rfl (Nat.le_of_ble_eq_true rfl) rfl ?_
  refine ia_walk (fun _ => false) 50 (fun X hX => ?_)
  conv => whnf
  refine And.intro (fun c => ?_) (fun c => ?_)
  · conv => whnf
    exact ⟨Or.inl rfl, rfl, rfl⟩
  · conv => whnf
    refine And.intro (fun c2 => ?_) (fun c2 => ?_)
    · rcases hb with q | q
      · exact absurd q c
      · exact absurd (show x < h.1 52 4 from c2) (by rw [e]; exact Int32.not_lt.mpr q)
    · conv => whnf
      exact ⟨Or.inl rfl, rfl, rfl⟩
theorem m_isGa1 {h : ia_H} {n : Nat} (e : h.1 52 4 = nI n) (hn : n < 2 ^ 31) {j : Nat} (hj : j < n) : V_ 138 [.ref 52, .int (nI j)] h (Z_ (.int 1) h) := by
  refine ia_V_in ia_k_X8_isGauge [some (.ref 52), some (.int (nI j))] rfl rfl (Nat.le_of_ble_eq_true rfl) rfl ?_
  refine ia_walk (fun _ => false) 50 (fun X hX => ?_)
  conv => whnf
  refine And.intro (fun c => ?_) (fun c => ?_)
  · exact absurd c (nI_pos (by omega))
  · conv => whnf
    refine And.intro (fun c2 => ?_) (fun c2 => ?_)
    · conv => whnf
      exact ⟨Or.inr rfl, rfl, rfl⟩
    · exact absurd (show nI j < h.1 52 4 by rw [e]; exact nI_lt hj hn) c2
theorem m_isIn (h : ia_H) (x lo hi : Int64) : V_ 97 [.long x, .long lo, .long hi] h (Z_ (.int (if lo ≤ x ∧ x ≤ hi then 1 else 0)) h) := by
  refine ia_V_in ia_k_X8_isIn [some (.long x), none, some (.long lo), none, some (.long hi), none] rfl rfl (Nat.le_of_ble_eq_true rfl) rfl ?_
  refine ia_walk (fun _ => false) 50 (fun X hX => ?_)
  conv => whnf
  refine And.intro (fun c => ?_) (fun c => ?_)
  · conv => whnf
    exact ⟨Or.inl rfl, by rw [if_neg (fun q => absurd ((lg_cmp_lt _ _).mp c) (Int64.not_lt.mpr q.1))], rfl⟩
  · conv => whnf
    refine And.intro (fun c2 => ?_) (fun c2 => ?_)
    · conv => whnf
      exact ⟨Or.inl rfl, by rw [if_neg (fun q => absurd ((lg_cmp_gt _ _).mp c2) (Int64.not_lt.mpr q.2))], rfl⟩
    · conv => whnf
      exact ⟨Or.inr rfl, by rw [if_pos ⟨Int64.not_lt.mp (fun q => c ((lg_cmp_lt _ _).mpr q)), Int64.not_lt.mp (fun q => c2 ((lg_cmp_gt _ _).mpr q))⟩], rfl⟩
/-- both answer the same, and change nothing -/
def Q_ (yc : Nat) (ac : List Value) (ym : Nat) (am : List Value) (h : ia_H) : Prop := ∃ v : Value, V_ yc ac h (Z_ v h) ∧ V_ ym am h (Z_ v h)
theorem q_amount {h : ia_H} {n : Nat} (hn : n ≤ 120) (e1 : h.1 4 7 = nI n) (e2 : h.1 52 10 = nI n) (ea : ∀ s, s < n → h.2 58 s = h.2 9 s) (x : Int32) : Q_ 71 [.ref 0, .int x] 136 [.ref 52, .int x] h := by
  rcases bad_or x (show n < 2 ^ 31 by omega) with hb | ⟨j, hj, rfl⟩
  · refine ⟨.long (-9223372036854775808), ?_, ?_⟩
    · refine ia_V_in ia_k_X7_amount [some (.ref 0), some (.int x)] rfl rfl (Nat.le_of_ble_eq_true rfl) rfl ?_
      refine ia_walk (fun _ => false) 50 (fun X hX => ?_)
      conv => whnf
      refine Exists.intro (_, _) (And.intro (ia_callE (v_isSt0 e1 hb)) ?_)
      conv => whnf
      refine And.intro (fun c => ?_) (fun c => ?_)
      · conv => whnf
        exact ⟨rfl, rfl⟩
      · exact absurd rfl c
    · refine ia_V_in ia_k_X8_amount [some (.ref 52), some (.int x)] rfl rfl (Nat.le_of_ble_eq_true rfl) rfl ?_
      refine ia_walk (fun _ => false) 50 (fun X hX => ?_)
      conv => whnf
      refine Exists.intro (_, _) (And.intro (ia_callE (m_isSt0 e2 hb)) ?_)
      conv => whnf
      refine And.intro (fun c => ?_) (fun c => ?_)
      · conv => whnf
        exact ⟨rfl, rfl⟩
      · exact absurd rfl c
  · refine ⟨.long (h.2 9 j), ?_, ?_⟩
    · refine ia_V_in ia_k_X7_amount [some (.ref 0), some (.int (nI j))] rfl rfl (Nat.le_of_ble_eq_true rfl) rfl ?_
      refine ia_walk (fun _ => false) 50 (fun X hX => ?_)
      conv => whnf
      refine Exists.intro (_, _) (And.intro (ia_callE (v_isSt1 e1 (by omega) hj)) ?_)
      conv => whnf
      refine And.intro (fun c => ?_) (fun c => ?_)
      · exact absurd c (by decide)
      · conv => whnf
        refine Exists.intro _ (And.intro (And.intro rfl (by omega)) ?_)
        conv => whnf
        exact ⟨rfl, rfl⟩
    · refine ia_V_in ia_k_X8_amount [some (.ref 52), some (.int (nI j))] rfl rfl (Nat.le_of_ble_eq_true rfl) rfl ?_
      refine ia_walk (fun _ => false) 50 (fun X hX => ?_)
      conv => whnf
      refine Exists.intro (_, _) (And.intro (ia_callE (m_isSt1 e2 (by omega) hj)) ?_)
      conv => whnf
      refine And.intro (fun c => ?_) (fun c => ?_)
      · exact absurd c (by decide)
      · conv => whnf
        refine Exists.intro _ (And.intro (And.intro rfl (by omega)) ?_)
        conv => whnf
        exact ⟨by rw [← ea j hj], rfl⟩
theorem q_offset {h : ia_H} {G : Nat} (hG : G ≤ 41) (e1 : h.1 4 6 = nI G) (e2 : h.1 52 4 = nI G) (ea : ∀ s, s < G → h.2 61 s = h.2 28 s) (x : Int32) : Q_ 75 [.ref 0, .int x] 141 [.ref 52, .int x] h := by
  rcases bad_or x (show G < 2 ^ 31 by omega) with hb | ⟨j, hj, rfl⟩
  · refine ⟨.long (-9223372036854775808), ?_, ?_⟩
    · refine ia_V_in ia_k_X7_offset [some (.ref 0), some (.int x)] rfl rfl (Nat.le_of_ble_eq_true rfl) rfl ?_
      refine ia_walk (fun _ => false) 50 (fun X hX => ?_)
      conv => whnf
      refine Exists.intro (_, _) (And.intro (ia_callE (v_isGa0 e1 hb)) ?_)
      conv => whnf
      refine And.intro (fun c => ?_) (fun c => ?_)
      · conv => whnf
        exact ⟨rfl, rfl⟩
      · exact absurd rfl c
    · refine ia_V_in ia_k_X8_offset [some (.ref 52), some (.int x)] rfl rfl (Nat.le_of_ble_eq_true rfl) rfl ?_
      refine ia_walk (fun _ => false) 50 (fun X hX => ?_)
      conv => whnf
      refine Exists.intro (_, _) (And.intro (ia_callE (m_isGa0 e2 hb)) ?_)
      conv => whnf
      refine And.intro (fun c => ?_) (fun c => ?_)
      · conv => whnf
        exact ⟨rfl, rfl⟩
      · exact absurd rfl c
  · refine ⟨.long (h.2 28 j), ?_, ?_⟩
    · refine ia_V_in ia_k_X7_offset [some (.ref 0), some (.int (nI j))] rfl rfl (Nat.le_of_ble_eq_true rfl) rfl ?_
      refine ia_walk (fun _ => false) 50 (fun X hX => ?_)
      conv => whnf
      refine Exists.intro (_, _) (And.intro (ia_callE (v_isGa1 e1 (by omega) hj)) ?_)
      conv => whnf
      refine And.intro (fun c => ?_) (fun c => ?_)
      · exact absurd c (by decide)
      · conv => whnf
        refine Exists.intro _ (And.intro (And.intro rfl (by omega)) ?_)
        conv => whnf
        exact ⟨rfl, rfl⟩
    · refine ia_V_in ia_k_X8_offset [some (.ref 52), some (.int (nI j))] rfl rfl (Nat.le_of_ble_eq_true rfl) rfl ?_
      refine ia_walk (fun _ => false) 50 (fun X hX => ?_)
      conv => whnf
      refine Exists.intro (_, _) (And.intro (ia_callE (m_isGa1 e2 (by omega) hj)) ?_)
      conv => whnf
      refine And.intro (fun c => ?_) (fun c => ?_)
      · exact absurd c (by decide)
      · conv => whnf
        refine Exists.intro _ (And.intro (And.intro rfl (by omega)) ?_)
        conv => whnf
        exact ⟨by rw [← ea j hj], rfl⟩
theorem q_difference {h : ia_H} {G : Nat} (hG : G ≤ 41) (e1 : h.1 4 6 = nI G) (e2 : h.1 52 4 = nI G) (eg : ∀ g, g < G → h.1 60 g = h.1 27 g ∧ h.2 61 g = h.2 28 g) (x y : Int32) : Q_ 74 [.ref 0, .int x, .int y] 140 [.ref 52, .int x, .int y] h := by
  rcases bad_or x (show G < 2 ^ 31 by omega) with hb | ⟨j, hj, rfl⟩
  · refine ⟨.long (-9223372036854775808), ?_, ?_⟩
    · refine ia_V_in ia_k_X7_difference [some (.ref 0), some (.int x), some (.int y)] rfl rfl (Nat.le_of_ble_eq_true rfl) rfl ?_
      refine ia_walk (fun _ => false) 50 (fun X hX => ?_)
      conv => whnf
      refine Exists.intro (_, _) (And.intro (ia_callE (v_isGa0 e1 hb)) ?_)
      conv => whnf
      refine And.intro (fun c => ?_) (fun c => ?_)
      · conv => whnf
        exact ⟨rfl, rfl⟩
      · exact absurd rfl c
    · refine ia_V_in ia_k_X8_difference [some (.ref 52), some (.int x), some (.int y)] rfl rfl (Nat.le_of_ble_eq_true rfl) rfl ?_
      refine ia_walk (fun _ => false) 50 (fun X hX => ?_)
      conv => whnf
      refine Exists.intro (_, _) (And.intro (ia_callE (m_isGa0 e2 hb)) ?_)
      conv => whnf
      refine And.intro (fun c => ?_) (fun c => ?_)
      · conv => whnf
        exact ⟨rfl, rfl⟩
      · exact absurd rfl c
  · rcases bad_or y (show G < 2 ^ 31 by omega) with hb | ⟨k, hk, rfl⟩
    · refine ⟨.long (-9223372036854775808), ?_, ?_⟩
      · refine ia_V_in ia_k_X7_difference [some (.ref 0), some (.int (nI j)), some (.int y)] rfl rfl (Nat.le_of_ble_eq_true rfl) rfl ?_
        refine ia_walk (fun _ => false) 50 (fun X hX => ?_)
        conv => whnf
        refine Exists.intro (_, _) (And.intro (ia_callE (v_isGa1 e1 (by omega) hj)) ?_)
        conv => whnf
        refine And.intro (fun c => ?_) (fun c => ?_)
        · exact absurd c (by decide)
        · conv => whnf
          refine Exists.intro (_, _) (And.intro (ia_callE (v_isGa0 e1 hb)) ?_)
          conv => whnf
          refine And.intro (fun c2 => ?_) (fun c2 => ?_)
          · conv => whnf
            exact ⟨rfl, rfl⟩
          · exact absurd rfl c2
      · refine ia_V_in ia_k_X8_difference [some (.ref 52), some (.int (nI j)), some (.int y)] rfl rfl (Nat.le_of_ble_eq_true rfl) rfl ?_
        refine ia_walk (fun _ => false) 50 (fun X hX => ?_)
        conv => whnf
        refine Exists.intro (_, _) (And.intro (ia_callE (m_isGa1 e2 (by omega) hj)) ?_)
        conv => whnf
        refine And.intro (fun c => ?_) (fun c => ?_)
        · exact absurd c (by decide)
        · conv => whnf
          refine Exists.intro (_, _) (And.intro (ia_callE (m_isGa0 e2 hb)) ?_)
          conv => whnf
          refine And.intro (fun c2 => ?_) (fun c2 => ?_)
          · conv => whnf
            exact ⟨rfl, rfl⟩
          · exact absurd rfl c2
    · refine ⟨.long (if h.1 27 j = h.1 27 k then h.2 28 j - h.2 28 k else -9223372036854775808), ?_, ?_⟩
      · refine ia_V_in ia_k_X7_difference [some (.ref 0), some (.int (nI j)), some (.int (nI k))] rfl rfl (Nat.le_of_ble_eq_true rfl) rfl ?_
        refine ia_walk (fun _ => false) 50 (fun X hX => ?_)
        conv => whnf
        refine Exists.intro (_, _) (And.intro (ia_callE (v_isGa1 e1 (by omega) hj)) ?_)
        conv => whnf
        refine And.intro (fun c => ?_) (fun c => ?_)
        · exact absurd c (by decide)
        · conv => whnf
          refine Exists.intro (_, _) (And.intro (ia_callE (v_isGa1 e1 (by omega) hk)) ?_)
          conv => whnf
          refine And.intro (fun c2 => ?_) (fun c2 => ?_)
          · exact absurd c2 (by decide)
          · conv => whnf
            refine Exists.intro _ (And.intro (And.intro rfl (by omega)) ?_)
            conv => whnf
            refine Exists.intro _ (And.intro (And.intro rfl (by omega)) ?_)
            conv => whnf
            refine And.intro (fun c3 => ?_) (fun c3 => ?_)
            · conv => whnf
              refine Exists.intro _ (And.intro (And.intro rfl (by omega)) ?_)
              conv => whnf
              refine Exists.intro _ (And.intro (And.intro rfl (by omega)) ?_)
              conv => whnf
              exact ⟨by rw [if_pos c3], rfl⟩
            · conv => whnf
              exact ⟨by rw [if_neg c3], rfl⟩
      · refine ia_V_in ia_k_X8_difference [some (.ref 52), some (.int (nI j)), some (.int (nI k))] rfl rfl (Nat.le_of_ble_eq_true rfl) rfl ?_
        refine ia_walk (fun _ => false) 50 (fun X hX => ?_)
        conv => whnf
        refine Exists.intro (_, _) (And.intro (ia_callE (m_isGa1 e2 (by omega) hj)) ?_)
        conv => whnf
        refine And.intro (fun c => ?_) (fun c => ?_)
        · exact absurd c (by decide)
        · conv => whnf
          refine Exists.intro (_, _) (And.intro (ia_callE (m_isGa1 e2 (by omega) hk)) ?_)
          conv => whnf
          refine And.intro (fun c2 => ?_) (fun c2 => ?_)
          · exact absurd c2 (by decide)
          · conv => whnf
            refine Exists.intro _ (And.intro (And.intro rfl (by omega)) ?_)
            conv => whnf
            refine Exists.intro _ (And.intro (And.intro rfl (by omega)) ?_)
            conv => whnf
            refine And.intro (fun c3 => ?_) (fun c3 => ?_)
            · conv => whnf
              refine Exists.intro _ (And.intro (And.intro rfl (by omega)) ?_)
              conv => whnf
              refine Exists.intro _ (And.intro (And.intro rfl (by omega)) ?_)
              conv => whnf
              exact ⟨by rw [← (eg j hj).1, ← (eg k hk).1, if_pos c3, (eg j hj).2, (eg k hk).2], rfl⟩
            · conv => whnf
              exact ⟨by rw [← (eg j hj).1, ← (eg k hk).1, if_neg c3], rfl⟩
end
section
/-! The reference's counts -/
theorem l_msizeOf (h : ia_H) (a G : Nat) (ha : a < 41) (hG : G ≤ 41) (eG : h.1 52 4 = nI G) {Z : Option Value → ia_H → Prop} (hZ : Z (some (.int (nI (ct (fun j => decide (h.1 60 j = h.1 60 a)) G)))) h) : ∀ k g : Nat, g + k = G → R_ ia_k_X8_sizeOf Z (4, [some (.ref 52), some (.int (nI a)), some (.int (nI (ct (fun j => decide (h.1 60 j = h.1 60 a)) g))), some (.int (nI g))], [], h) := by
  intro k
  induction k with
  | zero =>
    intro g hg
    have eg : g = G := by omega
    subst eg
    refine ia_walk (fun pc => Nat.beq pc 4) 50 (fun X hX => ?_)
    conv => whnf
    refine And.intro (fun c => ?_) (fun c => ?_)
    · exact absurd c (by show ¬ nI g < h.1 52 4; rw [eG]; exact nI_nlt (Nat.le_refl g) (by omega))
    · conv => whnf
      exact hZ
  | succ k ih =>
    intro g hg
    refine ia_walk (fun pc => Nat.beq pc 4) 50 (fun X hX => ?_)
    conv => whnf
    refine And.intro (fun c => ?_) (fun c => ?_)
    · conv => whnf
      refine Exists.intro _ (And.intro (And.intro rfl (by omega)) ?_)
      conv => whnf
      refine Exists.intro _ (And.intro (And.intro rfl (ha)) ?_)
      conv => whnf
      refine And.intro (fun c2 => ?_) (fun c2 => ?_)
      · conv => whnf
        rw [nI_1, nI_1, ← ct_t (p := fun j => decide (h.1 60 j = h.1 60 a)) (decide_eq_true c2)]
        exact hX _ (ih (g + 1) (by omega))
      · conv => whnf
        rw [nI_1, Int32.add_zero, ← ct_f (p := fun j => decide (h.1 60 j = h.1 60 a)) (decide_eq_false c2)]
        exact hX _ (ih (g + 1) (by omega))
    · exact absurd (by show nI g < h.1 52 4; rw [eG]; exact nI_lt (by omega) (by omega)) c
theorem m_sizeOf (h : ia_H) (a G : Nat) (ha : a < 41) (hG : G ≤ 41) (eG : h.1 52 4 = nI G) : V_ 133 [.ref 52, .int (nI a)] h (Z_ (.int (nI (ct (fun j => decide (h.1 60 j = h.1 60 a)) G))) h) := by
  refine ia_V_in ia_k_X8_sizeOf [some (.ref 52), some (.int (nI a)), none, none] rfl rfl (Nat.le_of_ble_eq_true rfl) rfl ?_
  refine ia_walk (fun pc => Nat.beq pc 4) 50 (fun X hX => ?_)
  conv => whnf
  exact hX _ (l_msizeOf h a G ha hG eG ⟨rfl, rfl⟩ G 0 (by omega))
theorem l_mgroups (h : ia_H) (G : Nat) (hG : G ≤ 41) (eG : h.1 52 4 = nI G) {Z : Option Value → ia_H → Prop} (hZ : Z (some (.int (nI (ct (fun j => decide (h.1 60 j = nI j)) G)))) h) : ∀ k g : Nat, g + k = G → R_ ia_k_X8_groups Z (4, [some (.ref 52), some (.int (nI (ct (fun j => decide (h.1 60 j = nI j)) g))), some (.int (nI g))], [], h) := by
  intro k
  induction k with
  | zero =>
    intro g hg
    have eg : g = G := by omega
    subst eg
    refine ia_walk (fun pc => Nat.beq pc 4) 50 (fun X hX => ?_)
    conv => whnf
    refine And.intro (fun c => ?_) (fun c => ?_)
    · exact absurd c (by show ¬ nI g < h.1 52 4; rw [eG]; exact nI_nlt (Nat.le_refl g) (by omega))
    · conv => whnf
      exact hZ
  | succ k ih =>
    intro g hg
    refine ia_walk (fun pc => Nat.beq pc 4) 50 (fun X hX => ?_)
    conv => whnf
    refine And.intro (fun c => ?_) (fun c => ?_)
    · conv => whnf
      refine Exists.intro _ (And.intro (And.intro rfl (by omega)) ?_)
      conv => whnf
      refine And.intro (fun c2 => ?_) (fun c2 => ?_)
      · conv => whnf
        rw [nI_1, nI_1, ← ct_t (p := fun j => decide (h.1 60 j = nI j)) (decide_eq_true c2)]
        exact hX _ (ih (g + 1) (by omega))
      · conv => whnf
        rw [nI_1, Int32.add_zero, ← ct_f (p := fun j => decide (h.1 60 j = nI j)) (decide_eq_false c2)]
        exact hX _ (ih (g + 1) (by omega))
    · exact absurd (by show nI g < h.1 52 4; rw [eG]; exact nI_lt (by omega) (by omega)) c
theorem m_groups (h : ia_H) (G : Nat) (hG : G ≤ 41) (eG : h.1 52 4 = nI G) : V_ 161 [.ref 52] h (Z_ (.int (nI (ct (fun j => decide (h.1 60 j = nI j)) G))) h) := by
  refine ia_V_in ia_k_X8_groups [some (.ref 52), none, none] rfl rfl (Nat.le_of_ble_eq_true rfl) rfl ?_
  refine ia_walk (fun pc => Nat.beq pc 4) 50 (fun X hX => ?_)
  conv => whnf
  exact hX _ (l_mgroups h G hG eG ⟨rfl, rfl⟩ G 0 (by omega))
theorem l_manyOf (h : ia_H) (x : Int32) (n : Nat) (hn : n ≤ 120) (eN : h.1 52 10 = nI n) {Z : Option Value → ia_H → Prop} (hZ : Z (some (.int (nI (ct (fun j => decide (h.1 62 j = x)) n)))) h) : ∀ k g : Nat, g + k = n → R_ ia_k_X8_manyOf Z (4, [some (.ref 52), some (.int x), some (.int (nI (ct (fun j => decide (h.1 62 j = x)) g))), some (.int (nI g))], [], h) := by
  intro k
  induction k with
  | zero =>
    intro g hg
    have eg : g = n := by omega
    subst eg
    refine ia_walk (fun pc => Nat.beq pc 4) 50 (fun X hX => ?_)
    conv => whnf
    refine And.intro (fun c => ?_) (fun c => ?_)
    · exact absurd c (by show ¬ nI g < h.1 52 10; rw [eN]; exact nI_nlt (Nat.le_refl g) (by omega))
    · conv => whnf
      exact hZ
  | succ k ih =>
    intro g hg
    refine ia_walk (fun pc => Nat.beq pc 4) 50 (fun X hX => ?_)
    conv => whnf
    refine And.intro (fun c => ?_) (fun c => ?_)
    · conv => whnf
      refine Exists.intro _ (And.intro (And.intro rfl (by omega)) ?_)
      conv => whnf
      refine And.intro (fun c2 => ?_) (fun c2 => ?_)
      · conv => whnf
        rw [nI_1, nI_1, ← ct_t (p := fun j => decide (h.1 62 j = x)) (decide_eq_true c2)]
        exact hX _ (ih (g + 1) (by omega))
      · conv => whnf
        rw [nI_1, Int32.add_zero, ← ct_f (p := fun j => decide (h.1 62 j = x)) (decide_eq_false c2)]
        exact hX _ (ih (g + 1) (by omega))
    · exact absurd (by show nI g < h.1 52 10; rw [eN]; exact nI_lt (by omega) (by omega)) c
theorem m_manyOf (h : ia_H) (x : Int32) (n : Nat) (hn : n ≤ 120) (eN : h.1 52 10 = nI n) : V_ 120 [.ref 52, .int x] h (Z_ (.int (nI (ct (fun j => decide (h.1 62 j = x)) n))) h) := by
  refine ia_V_in ia_k_X8_manyOf [some (.ref 52), some (.int x), none, none] rfl rfl (Nat.le_of_ble_eq_true rfl) rfl ?_
  refine ia_walk (fun pc => Nat.beq pc 4) 50 (fun X hX => ?_)
  conv => whnf
  exact hX _ (l_manyOf h x n hn eN ⟨rfl, rfl⟩ n 0 (by omega))
theorem m_standing (h : ia_H) (n : Nat) (hn : n ≤ 120) (eN : h.1 52 10 = nI n) : V_ 121 [.ref 52] h (Z_ (.int (nI (ct (fun j => decide (h.1 62 j = 0)) n) + nI (ct (fun j => decide (h.1 62 j = 1)) n))) h) := by
  refine ia_V_in ia_k_X8_standing [some (.ref 52)] rfl rfl (Nat.le_of_ble_eq_true rfl) rfl ?_
  refine ia_walk (fun _ => false) 50 (fun X hX => ?_)
  conv => whnf
  obtain ⟨x1, f1, ev'⟩ := ia_callN (f := Value.int) (m_manyOf h 0 n hn eN)
  refine Exists.intro (_, _) (And.intro ev' ?_)
  clear ev'
  conv => whnf
  obtain ⟨x2, f2, ev'⟩ := ia_callN (f := Value.int) (m_manyOf h 1 n hn eN)
  refine Exists.intro (_, _) (And.intro ev' ?_)
  clear ev'
  conv => whnf
  exact ⟨by rw [f1, f2], rfl⟩
theorem l_mknownTwos (h : ia_H) (G : Nat) (hG : G ≤ 41) (eG : h.1 52 4 = nI G) {Z : Option Value → ia_H → Prop} (hZ : Z (some (.int (nI (ct2 (fun g j => decide (h.1 60 g = h.1 60 j)) G)))) h) : ∀ (k g : Nat) (w : Option Value), g + k = G → R_ ia_k_X8_knownTwos Z (4, [some (.ref 52), some (.int (nI (ct2 (fun g j => decide (h.1 60 g = h.1 60 j)) g))), some (.int (nI g)), w], [], h) := by
  intro k
  induction k with
  | zero =>
    intro g w hg
    have eg : g = G := by omega
    subst eg
    refine ia_walk (fun pc => Nat.beq pc 4) 50 (fun X hX => ?_)
    conv => whnf
    refine And.intro (fun c => ?_) (fun c => ?_)
    · exact absurd c (by show ¬ nI g < h.1 52 4; rw [eG]; exact nI_nlt (Nat.le_refl g) (by omega))
    · conv => whnf
      exact hZ
  | succ k ih =>
    intro g w hg
    have inner : ∀ (k2 j : Nat), j + k2 = g → R_ ia_k_X8_knownTwos Z (14, [some (.ref 52), some (.int (nI (ct2 (fun g j => decide (h.1 60 g = h.1 60 j)) g + ct (fun j => decide (h.1 60 g = h.1 60 j)) j))), some (.int (nI g)), some (.int (nI j))], [], h) := by
      intro k2
      induction k2 with
      | zero =>
        intro j hj
        have ej : j = g := by omega
        subst ej
        refine ia_walk (fun pc => Nat.beq pc 4) 50 (fun X hX => ?_)
        conv => whnf
        refine And.intro (fun c => ?_) (fun c => ?_)
        · exact absurd ((nI_ltI (by omega) (by omega)).mp c) (by omega)
        · conv => whnf
          rw [nI_1]
          exact hX _ (ih (j + 1) _ (by omega))
      | succ k2 ih2 =>
        intro j hj
        refine ia_walk (fun pc => Nat.beq pc 14) 50 (fun X hX => ?_)
        conv => whnf
        refine And.intro (fun c => ?_) (fun c => ?_)
        · conv => whnf
          refine Exists.intro _ (And.intro (And.intro rfl (by omega)) ?_)
          conv => whnf
          refine Exists.intro _ (And.intro (And.intro rfl (by omega)) ?_)
          conv => whnf
          refine And.intro (fun c2 => ?_) (fun c2 => ?_)
          · conv => whnf
            have e := ct_t (p := fun j => decide (h.1 60 g = h.1 60 j)) (n := j) (decide_eq_true c2)
            rw [nI_1, nI_1, Nat.add_assoc, ← e]
            exact hX _ (ih2 (j + 1) (by omega))
          · conv => whnf
            have e := ct_f (p := fun j => decide (h.1 60 g = h.1 60 j)) (n := j) (decide_eq_false c2)
            rw [nI_1, Int32.add_zero, ← e]
            exact hX _ (ih2 (j + 1) (by omega))
        · exact absurd ((nI_ltI (by omega) (by omega)).mpr (by omega)) c
    refine ia_walk (fun pc => Nat.beq pc 14) 50 (fun X hX => ?_)
    conv => whnf
    refine And.intro (fun c => ?_) (fun c => ?_)
    · conv => whnf
      exact hX _ (inner g 0 (by omega))
    · exact absurd (by show nI g < h.1 52 4; rw [eG]; exact nI_lt (by omega) (by omega)) c
theorem m_knownTwos (h : ia_H) (G : Nat) (hG : G ≤ 41) (eG : h.1 52 4 = nI G) : V_ 162 [.ref 52] h (Z_ (.int (nI (ct2 (fun g j => decide (h.1 60 g = h.1 60 j)) G))) h) := by
  refine ia_V_in ia_k_X8_knownTwos [some (.ref 52), none, none, none] rfl rfl (Nat.le_of_ble_eq_true rfl) rfl ?_
  refine ia_walk (fun pc => Nat.beq pc 4) 50 (fun X hX => ?_)
  conv => whnf
  exact hX _ (l_mknownTwos h G hG eG ⟨rfl, rfl⟩ G 0 _ (by omega))
/-- two gauges of a group that differ by m, as the reference has it -/
def mr_tw (L : Nat → Int32) (O : Nat → Int64) (m : Int64) (g j : Nat) : Bool := decide (L g = L j) && (decide (O g - O j = m) || decide (O g - O j = -m))
theorem l_mtwos (h : ia_H) (G : Nat) (m : Int64) (hG : G ≤ 41) (eG : h.1 52 4 = nI G) {Z : Option Value → ia_H → Prop} (hZ : Z (some (.int (nI (ct2 (mr_tw (h.1 60) (h.2 61) m) G)))) h) : ∀ (k g : Nat) (w v : Option Value), g + k = G → R_ ia_k_X8_twos Z (13, [some (.ref 52), some (.long m), none, some (.int (nI (ct2 (mr_tw (h.1 60) (h.2 61) m) g))), some (.int (nI g)), w, v, none], [], h) := by
  intro k
  induction k with
  | zero =>
    intro g w v hg
    have eg : g = G := by omega
    subst eg
    refine ia_walk (fun pc => Nat.beq pc 13) 50 (fun X hX => ?_)
    conv => whnf
    refine And.intro (fun c => ?_) (fun c => ?_)
    · exact absurd c (by show ¬ nI g < h.1 52 4; rw [eG]; exact nI_nlt (Nat.le_refl g) (by omega))
    · conv => whnf
      exact hZ
  | succ k ih =>
    intro g w v hg
    have inner : ∀ (k2 j : Nat) (v : Option Value), j + k2 = g → R_ ia_k_X8_twos Z (25, [some (.ref 52), some (.long m), none, some (.int (nI (ct2 (mr_tw (h.1 60) (h.2 61) m) g + ct (mr_tw (h.1 60) (h.2 61) m g) j))), some (.int (nI g)), some (.int (nI j)), v, none], [], h) := by
      intro k2
      induction k2 with
      | zero =>
        intro j v hj
        have ej : j = g := by omega
        subst ej
        refine ia_walk (fun pc => Nat.beq pc 13) 50 (fun X hX => ?_)
        conv => whnf
        refine And.intro (fun c => ?_) (fun c => ?_)
        · exact absurd ((nI_ltI (by omega) (by omega)).mp c) (by omega)
        · conv => whnf
          rw [nI_1]
          exact hX _ (ih (j + 1) _ _ (by omega))
      | succ k2 ih2 =>
        intro j v hj
        refine ia_walk (fun pc => Nat.beq pc 25) 60 (fun X hX => ?_)
        conv => whnf
        refine And.intro (fun c => ?_) (fun c => ?_)
        · conv => whnf
          refine Exists.intro _ (And.intro (And.intro rfl (by omega)) ?_)
          conv => whnf
          refine Exists.intro _ (And.intro (And.intro rfl (by omega)) ?_)
          conv => whnf
          refine And.intro (fun c2 => ?_) (fun c2 => ?_)
          · conv => whnf
            refine Exists.intro _ (And.intro (And.intro rfl (by omega)) ?_)
            conv => whnf
            refine Exists.intro _ (And.intro (And.intro rfl (by omega)) ?_)
            conv => whnf
            refine And.intro (fun c3 => ?_) (fun c3 => ?_)
            · conv => whnf
              have e := ct_t (p := mr_tw (h.1 60) (h.2 61) m g) (n := j) (by simp only [mr_tw, decide_eq_true c2, decide_eq_true ((lg_cmp_eq _ _).mp c3), Bool.true_or, Bool.and_true])
              rw [nI_1, nI_1, Nat.add_assoc, ← e]
              exact hX _ (ih2 (j + 1) _ (by omega))
            · conv => whnf
              refine And.intro (fun c4 => ?_) (fun c4 => ?_)
              · conv => whnf
                have e := ct_t (p := mr_tw (h.1 60) (h.2 61) m g) (n := j) (by simp only [mr_tw, decide_eq_true c2, decide_eq_true ((lg_cmp_eq _ _).mp c4), Bool.or_true, Bool.and_true])
                rw [nI_1, nI_1, Nat.add_assoc, ← e]
                exact hX _ (ih2 (j + 1) _ (by omega))
              · conv => whnf
                have e := ct_f (p := mr_tw (h.1 60) (h.2 61) m g) (n := j) (by simp only [mr_tw, decide_eq_false (fun q => c3 ((lg_cmp_eq _ _).mpr q)), decide_eq_false (fun q => c4 ((lg_cmp_eq _ _).mpr q)), Bool.or_false, Bool.and_false])
                rw [nI_1, Int32.add_zero, ← e]
                exact hX _ (ih2 (j + 1) _ (by omega))
          · conv => whnf
            have e := ct_f (p := mr_tw (h.1 60) (h.2 61) m g) (n := j) (by simp only [mr_tw, decide_eq_false c2, Bool.false_and])
            rw [nI_1, ← e]
            exact hX _ (ih2 (j + 1) _ (by omega))
        · exact absurd ((nI_ltI (by omega) (by omega)).mpr (by omega)) c
    refine ia_walk (fun pc => Nat.beq pc 25) 50 (fun X hX => ?_)
    conv => whnf
    refine And.intro (fun c => ?_) (fun c => ?_)
    · conv => whnf
      exact hX _ (inner g 0 _ (by omega))
    · exact absurd (by show nI g < h.1 52 4; rw [eG]; exact nI_lt (by omega) (by omega)) c
theorem m_twos (h : ia_H) (G : Nat) (m : Int64) (hG : G ≤ 41) (eG : h.1 52 4 = nI G) : V_ 148 [.ref 52, .long m] h (Z_ (.int (if m < 0 then -1 else nI (ct2 (mr_tw (h.1 60) (h.2 61) m) G))) h) := by
  refine ia_V_in ia_k_X8_twos [some (.ref 52), some (.long m), none, none, none, none, none, none] rfl rfl (Nat.le_of_ble_eq_true rfl) rfl ?_
  refine ia_walk (fun pc => Nat.beq pc 13) 50 (fun X hX => ?_)
  conv => whnf
  refine And.intro (fun c => ?_) (fun c => ?_)
  · conv => whnf
    exact ⟨by rw [if_pos ((lg_cmp_lt _ _).mp c)], rfl⟩
  · conv => whnf
    exact hX _ (l_mtwos h G m hG eG ⟨by rw [if_neg (fun q => c ((lg_cmp_lt _ _).mpr q))], rfl⟩ G 0 _ _ (by omega))
theorem c_twos (h : ia_H) (m : Int64) : V_ 80 [.ref 0, .long m] h (Z_ (.int (if m < 0 then -1 else nI (ct2 (gr_tw (h.1 27) (h.2 28) m) 41))) h) := by
  refine ia_V_in ia_k_X7_twos [some (.ref 0), some (.long m), none] rfl rfl (Nat.le_of_ble_eq_true rfl) rfl ?_
  refine ia_walk (fun _ => false) 50 (fun X hX => ?_)
  conv => whnf
  refine And.intro (fun c => ?_) (fun c => ?_)
  · conv => whnf
    exact ⟨by rw [if_pos ((lg_cmp_lt _ _).mp c)], rfl⟩
  · conv => whnf
    obtain ⟨x1, f1, ev'⟩ := ia_callN (f := Value.int) (v_countTwos h m)
    refine Exists.intro (_, _) (And.intro ev' ?_)
    clear ev'
    conv => whnf
    exact ⟨by rw [if_neg (fun q => c ((lg_cmp_lt _ _).mpr q)), f1], rfl⟩
/-! counts of the class over all 41 are those below G -/
theorem ct2_congr {p q : Nat → Nat → Bool} : ∀ {n : Nat}, (∀ g j, g < n → j < g → p g j = q g j) → ct2 p n = ct2 q n
  | 0, _ => rfl
  | n + 1, h => by rw [ct2, ct2, ct2_congr (fun g j hg hj => h g j (by omega) hj), ct_congr (fun j hj => h n j (by omega) hj)]
theorem ct_none {p : Nat → Bool} : ∀ {n : Nat}, (∀ k, k < n → p k = false) → ct p n = 0
  | 0, _ => rfl
  | n + 1, h => by rw [ct_f (h n (by omega)), ct_none (fun k hk => h k (by omega))]
theorem ct2_stop {p : Nat → Nat → Bool} {m : Nat} : ∀ {n : Nat}, m ≤ n → (∀ g j, m ≤ g → g < n → j < g → p g j = false) → ct2 p n = ct2 p m
  | 0, h, _ => by rw [show m = 0 by omega]
  | n + 1, h, hp => by
    by_cases he : m = n + 1
    · rw [he]
    · rw [ct2, ct_none (fun j hj => hp n j (by omega) (by omega) hj), Nat.add_zero]
      exact ct2_stop (by omega) (fun g j h1 h2 h3 => hp g j h1 (by omega) h3)
end
section
/-! Arrays.fill, by its own code, for each row that is filled -/
def flF (f : Nat → Int32) (n : Nat) (v : Int32) : Nat → Int32 := fun j => if j < n then v else f j
theorem flF_0 (f : Nat → Int32) (v : Int32) : flF f 0 v = f := by funext j; simp [flF]
theorem flF_s (f : Nat → Int32) (n : Nat) (v : Int32) : upd (flF f n v) n v = flF f (n + 1) v := by
  funext j
  simp only [upd, flF]
  by_cases hj : j = n
  · subst hj; simp
  · by_cases hl : j < n
    · simp [hj, hl, Nat.lt_succ_of_lt hl]
    · simp [hj, hl, show ¬ j < n + 1 by omega]
theorem l_fill_leads (h : ia_H) (v : Int32) {Z : Option Value → ia_H → Prop} (hZ : Z none (hsI h 30 (flF (h.1 30) 240 v))) : ∀ k i : Nat, i + k = 240 → R_ ia_k_J7_fill_53178 Z (5, [some (.ref 30), some (.int v), some (.int (nI i)), some (.int 240)], [], hsI h 30 (flF (h.1 30) i v)) := by
  intro k
  induction k with
  | zero =>
    intro i hi
    rw [show i = 240 by omega]
    refine ia_walk (fun pc => Nat.beq pc 5) 50 (fun X hX => ?_)
    conv => whnf
    refine And.intro (fun c => ?_) (fun c => ?_)
    · exact absurd c (by decide)
    · conv => whnf
      exact hZ
  | succ k ih =>
    intro i hi
    refine ia_walk (fun pc => Nat.beq pc 5) 50 (fun X hX => ?_)
    conv => whnf
    refine And.intro (fun c => ?_) (fun c => ?_)
    · conv => whnf
      refine Exists.intro _ (And.intro (And.intro rfl (by omega)) ?_)
      conv => whnf
      rw [nI_1]
      have e : hsI (hsI h 30 (flF (h.1 30) i v)) 30 (upd (flF (h.1 30) i v) i v) = hsI h 30 (flF (h.1 30) (i + 1) v) := by rw [hsI_same, flF_s]
      exact hX _ (e ▸ ih (i + 1) (by omega) : ia_Run _ _ _ _ (5, _, _, hsI (hsI h 30 (flF (h.1 30) i v)) 30 (upd (flF (h.1 30) i v) i v)))
    · exact absurd (show nI i < 240 from nI_lt (b := 240) (by omega) (by omega)) c
theorem v_fill_leads (h : ia_H) (v : Int32) : V_ 167 [.ref 30, .int v] h (fun r h' => r = none ∧ h' = hsI h 30 (flF (h.1 30) 240 v)) := by
  refine ia_V_in ia_k_J7_fill_53178 [some (.ref 30), some (.int v), none, none] rfl rfl (Nat.le_of_ble_eq_true rfl) rfl ?_
  refine ia_walk (fun pc => Nat.beq pc 5) 50 (fun X hX => ?_)
  conv => whnf
  have lp := l_fill_leads h v (Z := fun r h' => r = none ∧ h' = hsI h 30 (flF (h.1 30) 240 v)) ⟨rfl, rfl⟩ 240 0 rfl
  rw [flF_0, hsI_eta] at lp
  exact hX _ lp
theorem l_fill_begins (h : ia_H) (v : Int32) {Z : Option Value → ia_H → Prop} (hZ : Z none (hsI h 32 (flF (h.1 32) 42 v))) : ∀ k i : Nat, i + k = 42 → R_ ia_k_J7_fill_53178 Z (5, [some (.ref 32), some (.int v), some (.int (nI i)), some (.int 42)], [], hsI h 32 (flF (h.1 32) i v)) := by
  intro k
  induction k with
  | zero =>
    intro i hi
    rw [show i = 42 by omega]
    refine ia_walk (fun pc => Nat.beq pc 5) 50 (fun X hX => ?_)
    conv => whnf
    refine And.intro (fun c => ?_) (fun c => ?_)
    · exact absurd c (by decide)
    · conv => whnf
      exact hZ
  | succ k ih =>
    intro i hi
    refine ia_walk (fun pc => Nat.beq pc 5) 50 (fun X hX => ?_)
    conv => whnf
    refine And.intro (fun c => ?_) (fun c => ?_)
    · conv => whnf
      refine Exists.intro _ (And.intro (And.intro rfl (by omega)) ?_)
      conv => whnf
      rw [nI_1]
      have e : hsI (hsI h 32 (flF (h.1 32) i v)) 32 (upd (flF (h.1 32) i v) i v) = hsI h 32 (flF (h.1 32) (i + 1) v) := by rw [hsI_same, flF_s]
      exact hX _ (e ▸ ih (i + 1) (by omega) : ia_Run _ _ _ _ (5, _, _, hsI (hsI h 32 (flF (h.1 32) i v)) 32 (upd (flF (h.1 32) i v) i v)))
    · exact absurd (show nI i < 42 from nI_lt (b := 42) (by omega) (by omega)) c
theorem v_fill_begins (h : ia_H) (v : Int32) : V_ 167 [.ref 32, .int v] h (fun r h' => r = none ∧ h' = hsI h 32 (flF (h.1 32) 42 v)) := by
  refine ia_V_in ia_k_J7_fill_53178 [some (.ref 32), some (.int v), none, none] rfl rfl (Nat.le_of_ble_eq_true rfl) rfl ?_
  refine ia_walk (fun pc => Nat.beq pc 5) 50 (fun X hX => ?_)
  conv => whnf
  have lp := l_fill_begins h v (Z := fun r h' => r = none ∧ h' = hsI h 32 (flF (h.1 32) 42 v)) ⟨rfl, rfl⟩ 42 0 rfl
  rw [flF_0, hsI_eta] at lp
  exact hX _ lp
theorem l_fill_sorted (h : ia_H) (v : Int32) {Z : Option Value → ia_H → Prop} (hZ : Z none (hsI h 33 (flF (h.1 33) 41 v))) : ∀ k i : Nat, i + k = 41 → R_ ia_k_J7_fill_53178 Z (5, [some (.ref 33), some (.int v), some (.int (nI i)), some (.int 41)], [], hsI h 33 (flF (h.1 33) i v)) := by
  intro k
  induction k with
  | zero =>
    intro i hi
    rw [show i = 41 by omega]
    refine ia_walk (fun pc => Nat.beq pc 5) 50 (fun X hX => ?_)
    conv => whnf
    refine And.intro (fun c => ?_) (fun c => ?_)
    · exact absurd c (by decide)
    · conv => whnf
      exact hZ
  | succ k ih =>
    intro i hi
    refine ia_walk (fun pc => Nat.beq pc 5) 50 (fun X hX => ?_)
    conv => whnf
    refine And.intro (fun c => ?_) (fun c => ?_)
    · conv => whnf
      refine Exists.intro _ (And.intro (And.intro rfl (by omega)) ?_)
      conv => whnf
      rw [nI_1]
      have e : hsI (hsI h 33 (flF (h.1 33) i v)) 33 (upd (flF (h.1 33) i v) i v) = hsI h 33 (flF (h.1 33) (i + 1) v) := by rw [hsI_same, flF_s]
      exact hX _ (e ▸ ih (i + 1) (by omega) : ia_Run _ _ _ _ (5, _, _, hsI (hsI h 33 (flF (h.1 33) i v)) 33 (upd (flF (h.1 33) i v) i v)))
    · exact absurd (show nI i < 41 from nI_lt (b := 41) (by omega) (by omega)) c
theorem v_fill_sorted (h : ia_H) (v : Int32) : V_ 167 [.ref 33, .int v] h (fun r h' => r = none ∧ h' = hsI h 33 (flF (h.1 33) 41 v)) := by
  refine ia_V_in ia_k_J7_fill_53178 [some (.ref 33), some (.int v), none, none] rfl rfl (Nat.le_of_ble_eq_true rfl) rfl ?_
  refine ia_walk (fun pc => Nat.beq pc 5) 50 (fun X hX => ?_)
  conv => whnf
  have lp := l_fill_sorted h v (Z := fun r h' => r = none ∧ h' = hsI h 33 (flF (h.1 33) 41 v)) ⟨rfl, rfl⟩ 41 0 rfl
  rw [flF_0, hsI_eta] at lp
  exact hX _ lp
theorem l_fill_times (h : ia_H) (v : Int32) {Z : Option Value → ia_H → Prop} (hZ : Z none (hsI h 35 (flF (h.1 35) 120 v))) : ∀ k i : Nat, i + k = 120 → R_ ia_k_J7_fill_53178 Z (5, [some (.ref 35), some (.int v), some (.int (nI i)), some (.int 120)], [], hsI h 35 (flF (h.1 35) i v)) := by
  intro k
  induction k with
  | zero =>
    intro i hi
    rw [show i = 120 by omega]
    refine ia_walk (fun pc => Nat.beq pc 5) 50 (fun X hX => ?_)
    conv => whnf
    refine And.intro (fun c => ?_) (fun c => ?_)
    · exact absurd c (by decide)
    · conv => whnf
      exact hZ
  | succ k ih =>
    intro i hi
    refine ia_walk (fun pc => Nat.beq pc 5) 50 (fun X hX => ?_)
    conv => whnf
    refine And.intro (fun c => ?_) (fun c => ?_)
    · conv => whnf
      refine Exists.intro _ (And.intro (And.intro rfl (by omega)) ?_)
      conv => whnf
      rw [nI_1]
      have e : hsI (hsI h 35 (flF (h.1 35) i v)) 35 (upd (flF (h.1 35) i v) i v) = hsI h 35 (flF (h.1 35) (i + 1) v) := by rw [hsI_same, flF_s]
      exact hX _ (e ▸ ih (i + 1) (by omega) : ia_Run _ _ _ _ (5, _, _, hsI (hsI h 35 (flF (h.1 35) i v)) 35 (upd (flF (h.1 35) i v) i v)))
    · exact absurd (show nI i < 120 from nI_lt (b := 120) (by omega) (by omega)) c
theorem v_fill_times (h : ia_H) (v : Int32) : V_ 167 [.ref 35, .int v] h (fun r h' => r = none ∧ h' = hsI h 35 (flF (h.1 35) 120 v)) := by
  refine ia_V_in ia_k_J7_fill_53178 [some (.ref 35), some (.int v), none, none] rfl rfl (Nat.le_of_ble_eq_true rfl) rfl ?_
  refine ia_walk (fun pc => Nat.beq pc 5) 50 (fun X hX => ?_)
  conv => whnf
  have lp := l_fill_times h v (Z := fun r h' => r = none ∧ h' = hsI h 35 (flF (h.1 35) 120 v)) ⟨rfl, rfl⟩ 120 0 rfl
  rw [flF_0, hsI_eta] at lp
  exact hX _ lp
theorem l_fill_steps (h : ia_H) (v : Int32) {Z : Option Value → ia_H → Prop} (hZ : Z none (hsI h 37 (flF (h.1 37) 41 v))) : ∀ k i : Nat, i + k = 41 → R_ ia_k_J7_fill_53178 Z (5, [some (.ref 37), some (.int v), some (.int (nI i)), some (.int 41)], [], hsI h 37 (flF (h.1 37) i v)) := by
  intro k
  induction k with
  | zero =>
    intro i hi
    rw [show i = 41 by omega]
    refine ia_walk (fun pc => Nat.beq pc 5) 50 (fun X hX => ?_)
    conv => whnf
    refine And.intro (fun c => ?_) (fun c => ?_)
    · exact absurd c (by decide)
    · conv => whnf
      exact hZ
  | succ k ih =>
    intro i hi
    refine ia_walk (fun pc => Nat.beq pc 5) 50 (fun X hX => ?_)
    conv => whnf
    refine And.intro (fun c => ?_) (fun c => ?_)
    · conv => whnf
      refine Exists.intro _ (And.intro (And.intro rfl (by omega)) ?_)
      conv => whnf
      rw [nI_1]
      have e : hsI (hsI h 37 (flF (h.1 37) i v)) 37 (upd (flF (h.1 37) i v) i v) = hsI h 37 (flF (h.1 37) (i + 1) v) := by rw [hsI_same, flF_s]
      exact hX _ (e ▸ ih (i + 1) (by omega) : ia_Run _ _ _ _ (5, _, _, hsI (hsI h 37 (flF (h.1 37) i v)) 37 (upd (flF (h.1 37) i v) i v)))
    · exact absurd (show nI i < 41 from nI_lt (b := 41) (by omega) (by omega)) c
theorem v_fill_steps (h : ia_H) (v : Int32) : V_ 167 [.ref 37, .int v] h (fun r h' => r = none ∧ h' = hsI h 37 (flF (h.1 37) 41 v)) := by
  refine ia_V_in ia_k_J7_fill_53178 [some (.ref 37), some (.int v), none, none] rfl rfl (Nat.le_of_ble_eq_true rfl) rfl ?_
  refine ia_walk (fun pc => Nat.beq pc 5) 50 (fun X hX => ?_)
  conv => whnf
  have lp := l_fill_steps h v (Z := fun r h' => r = none ∧ h' = hsI h 37 (flF (h.1 37) 41 v)) ⟨rfl, rfl⟩ 41 0 rfl
  rw [flF_0, hsI_eta] at lp
  exact hX _ lp
theorem l_fill_flow (h : ia_H) (v : Int32) {Z : Option Value → ia_H → Prop} (hZ : Z none (hsI h 39 (flF (h.1 39) 120 v))) : ∀ k i : Nat, i + k = 120 → R_ ia_k_J7_fill_53178 Z (5, [some (.ref 39), some (.int v), some (.int (nI i)), some (.int 120)], [], hsI h 39 (flF (h.1 39) i v)) := by
  intro k
  induction k with
  | zero =>
    intro i hi
    rw [show i = 120 by omega]
    refine ia_walk (fun pc => Nat.beq pc 5) 50 (fun X hX => ?_)
    conv => whnf
    refine And.intro (fun c => ?_) (fun c => ?_)
    · exact absurd c (by decide)
    · conv => whnf
      exact hZ
  | succ k ih =>
    intro i hi
    refine ia_walk (fun pc => Nat.beq pc 5) 50 (fun X hX => ?_)
    conv => whnf
    refine And.intro (fun c => ?_) (fun c => ?_)
    · conv => whnf
      refine Exists.intro _ (And.intro (And.intro rfl (by omega)) ?_)
      conv => whnf
      rw [nI_1]
      have e : hsI (hsI h 39 (flF (h.1 39) i v)) 39 (upd (flF (h.1 39) i v) i v) = hsI h 39 (flF (h.1 39) (i + 1) v) := by rw [hsI_same, flF_s]
      exact hX _ (e ▸ ih (i + 1) (by omega) : ia_Run _ _ _ _ (5, _, _, hsI (hsI h 39 (flF (h.1 39) i v)) 39 (upd (flF (h.1 39) i v) i v)))
    · exact absurd (show nI i < 120 from nI_lt (b := 120) (by omega) (by omega)) c
theorem v_fill_flow (h : ia_H) (v : Int32) : V_ 167 [.ref 39, .int v] h (fun r h' => r = none ∧ h' = hsI h 39 (flF (h.1 39) 120 v)) := by
  refine ia_V_in ia_k_J7_fill_53178 [some (.ref 39), some (.int v), none, none] rfl rfl (Nat.le_of_ble_eq_true rfl) rfl ?_
  refine ia_walk (fun pc => Nat.beq pc 5) 50 (fun X hX => ?_)
  conv => whnf
  have lp := l_fill_flow h v (Z := fun r h' => r = none ∧ h' = hsI h 39 (flF (h.1 39) 120 v)) ⟨rfl, rfl⟩ 120 0 rfl
  rw [flF_0, hsI_eta] at lp
  exact hX _ lp
theorem l_fill_rely (h : ia_H) (v : Int32) {Z : Option Value → ia_H → Prop} (hZ : Z none (hsI h 42 (flF (h.1 42) 120 v))) : ∀ k i : Nat, i + k = 120 → R_ ia_k_J7_fill_53178 Z (5, [some (.ref 42), some (.int v), some (.int (nI i)), some (.int 120)], [], hsI h 42 (flF (h.1 42) i v)) := by
  intro k
  induction k with
  | zero =>
    intro i hi
    rw [show i = 120 by omega]
    refine ia_walk (fun pc => Nat.beq pc 5) 50 (fun X hX => ?_)
    conv => whnf
    refine And.intro (fun c => ?_) (fun c => ?_)
    · exact absurd c (by decide)
    · conv => whnf
      exact hZ
  | succ k ih =>
    intro i hi
    refine ia_walk (fun pc => Nat.beq pc 5) 50 (fun X hX => ?_)
    conv => whnf
    refine And.intro (fun c => ?_) (fun c => ?_)
    · conv => whnf
      refine Exists.intro _ (And.intro (And.intro rfl (by omega)) ?_)
      conv => whnf
      rw [nI_1]
      have e : hsI (hsI h 42 (flF (h.1 42) i v)) 42 (upd (flF (h.1 42) i v) i v) = hsI h 42 (flF (h.1 42) (i + 1) v) := by rw [hsI_same, flF_s]
      exact hX _ (e ▸ ih (i + 1) (by omega) : ia_Run _ _ _ _ (5, _, _, hsI (hsI h 42 (flF (h.1 42) i v)) 42 (upd (flF (h.1 42) i v) i v)))
    · exact absurd (show nI i < 120 from nI_lt (b := 120) (by omega) (by omega)) c
theorem v_fill_rely (h : ia_H) (v : Int32) : V_ 167 [.ref 42, .int v] h (fun r h' => r = none ∧ h' = hsI h 42 (flF (h.1 42) 120 v)) := by
  refine ia_V_in ia_k_J7_fill_53178 [some (.ref 42), some (.int v), none, none] rfl rfl (Nat.le_of_ble_eq_true rfl) rfl ?_
  refine ia_walk (fun pc => Nat.beq pc 5) 50 (fun X hX => ?_)
  conv => whnf
  have lp := l_fill_rely h v (Z := fun r h' => r = none ∧ h' = hsI h 42 (flF (h.1 42) 120 v)) ⟨rfl, rfl⟩ 120 0 rfl
  rw [flF_0, hsI_eta] at lp
  exact hX _ lp
end
section
/-! Web.weave: where each way leads -/
/-- a verdict that stands -/
def stV (v : Int32) : Prop := v = 0 ∨ v = 1
/-- leads, once statements below s are laid (F first, S second, V verdict) -/
def wvF (F S V : Nat → Int32) (D : Nat → Int32) (s : Nat) : Nat → Int32 := fun w => if w < 240 then (if w / 2 < s ∧ (V (w / 2) = 0 ∨ V (w / 2) = 1) then (if w % 2 = 0 then S (w / 2) else F (w / 2)) else -1) else D w
theorem wvF_0 (F S V D : Nat → Int32) : wvF F S V D 0 = flF D 240 (-1) := by
  funext w
  simp only [wvF, flF]
  by_cases h : w < 240
  · rw [if_pos h, if_pos h, if_neg (fun q => by omega)]
  · rw [if_neg h, if_neg h]
theorem wvF_f {F S V D : Nat → Int32} {s : Nat} (h : ¬ (V s = 0 ∨ V s = 1)) : wvF F S V D s = wvF F S V D (s + 1) := by
  funext w
  simp only [wvF]
  by_cases h1 : w < 240
  · rw [if_pos h1, if_pos h1]
    by_cases h2 : w / 2 = s
    · rw [if_neg (fun q => by omega), if_neg (fun q => h (h2 ▸ q.2))]
    · by_cases h3 : w / 2 < s ∧ (V (w / 2) = 0 ∨ V (w / 2) = 1)
      · rw [if_pos h3, if_pos (show w / 2 < s + 1 ∧ (V (w / 2) = 0 ∨ V (w / 2) = 1) from ⟨by omega, h3.2⟩)]
      · rw [if_neg h3, if_neg (fun q => h3 ⟨by omega, q.2⟩)]
  · rw [if_neg h1, if_neg h1]
theorem wvF_t {F S V D : Nat → Int32} {s : Nat} (hs : s < 120) (h : V s = 0 ∨ V s = 1) : upd (upd (wvF F S V D s) (2 * s) (S s)) (2 * s + 1) (F s) = wvF F S V D (s + 1) := by
  funext w
  simp only [upd, wvF]
  by_cases h1 : w = 2 * s + 1
  · rw [if_pos h1]
    have e1 : w / 2 = s := by omega
    rw [if_pos (by omega), e1, if_pos ⟨by omega, h⟩, if_neg (by omega)]
  · rw [if_neg h1]
    by_cases h2 : w = 2 * s
    · rw [if_pos h2]
      have e1 : w / 2 = s := by omega
      rw [if_pos (by omega), e1, if_pos ⟨by omega, h⟩, if_pos (by omega)]
    · rw [if_neg h2]
      by_cases h3 : w < 240
      · rw [if_pos h3, if_pos h3]
        by_cases h4 : w / 2 < s ∧ (V (w / 2) = 0 ∨ V (w / 2) = 1)
        · rw [if_pos h4, if_pos (show w / 2 < s + 1 ∧ (V (w / 2) = 0 ∨ V (w / 2) = 1) from ⟨by omega, h4.2⟩)]
        · rw [if_neg h4, if_neg (fun q => h4 ⟨by omega, q.2⟩)]
      · rw [if_neg h3, if_neg h3]
theorem mul2 (s : Nat) : (2 : Int32) * nI s = nI (2 * s) := pk_mul 2 s
theorem l_weave (h : ia_H) (n : Nat) (hn : n ≤ 120) (eN : h.1 4 7 = nI n) (D : Nat → Int32) {Z : Option Value → ia_H → Prop} (hN : ∀ w : Option Value, R_ ia_k_X6_weave Z (73, [some (.ref 29), some (.ref 4), some (.ref 25), w], [], hsI h 30 (wvF (h.1 7) (h.1 8) (h.1 26) D n))) : ∀ k s : Nat, s + k = n → R_ ia_k_X6_weave Z (10, [some (.ref 29), some (.ref 4), some (.ref 25), some (.int (nI s))], [], hsI h 30 (wvF (h.1 7) (h.1 8) (h.1 26) D s)) := by
  intro k
  induction k with
  | zero =>
    intro s hs
    have es : s = n := by omega
    subst es
    refine ia_walk (fun pc => Nat.beq pc 73) 50 (fun X hX => ?_)
    conv => whnf
    refine And.intro (fun c => ?_) (fun c => ?_)
    · exact absurd c (by show ¬ nI s < h.1 4 7; rw [eN]; exact nI_nlt (Nat.le_refl s) (by omega))
    · conv => whnf
      exact hX _ (hN _)
  | succ k ih =>
    intro s hs
    have lay : (h.1 26 s = 0 ∨ h.1 26 s = 1) → R_ ia_k_X6_weave Z (37, [some (.ref 29), some (.ref 4), some (.ref 25), some (.int (nI s))], [], hsI h 30 (wvF (h.1 7) (h.1 8) (h.1 26) D s)) := by
      intro hv
      refine ia_walk (fun pc => Nat.beq pc 10) 60 (fun X hX => ?_)
      conv => whnf
      refine Exists.intro _ (And.intro (And.intro rfl (by omega)) ?_)
      conv => whnf
      refine Exists.intro (2 * s) (And.intro (And.intro (mul2 s) (by omega)) ?_)
      conv => whnf
      refine Exists.intro _ (And.intro (And.intro rfl (by omega)) ?_)
      conv => whnf
      refine Exists.intro (2 * s + 1) (And.intro (And.intro ((by rw [mul2]; exact nI_1 _)) (by omega)) ?_)
      conv => whnf
      rw [nI_1]
      have e : hsI (hsI (hsI h 30 (wvF (h.1 7) (h.1 8) (h.1 26) D s)) 30 (upd (wvF (h.1 7) (h.1 8) (h.1 26) D s) (2 * s) (h.1 8 s))) 30 (upd (upd (wvF (h.1 7) (h.1 8) (h.1 26) D s) (2 * s) (h.1 8 s)) (2 * s + 1) (h.1 7 s)) = hsI h 30 (wvF (h.1 7) (h.1 8) (h.1 26) D (s + 1)) := by rw [hsI_same, hsI_same, wvF_t (by omega) hv]
      exact hX _ (e ▸ ih (s + 1) (by omega) : ia_Run _ _ _ _ (10, _, _, hsI (hsI (hsI h 30 (wvF (h.1 7) (h.1 8) (h.1 26) D s)) 30 (upd (wvF (h.1 7) (h.1 8) (h.1 26) D s) (2 * s) (h.1 8 s))) 30 (upd (upd (wvF (h.1 7) (h.1 8) (h.1 26) D s) (2 * s) (h.1 8 s)) (2 * s + 1) (h.1 7 s))))
    refine ia_walk (fun pc => Nat.beq pc 37 || Nat.beq pc 10) 60 (fun X hX => ?_)
    conv => whnf
    refine And.intro (fun c => ?_) (fun c => ?_)
    · conv => whnf
      refine Exists.intro _ (And.intro (And.intro rfl (by omega)) ?_)
      conv => whnf
      refine And.intro (fun c1 => ?_) (fun c1 => ?_)
      · conv => whnf
        exact hX _ (lay (Or.inl c1))
      · conv => whnf
        refine Exists.intro _ (And.intro (And.intro rfl (by omega)) ?_)
        conv => whnf
        refine And.intro (fun c2 => ?_) (fun c2 => ?_)
        · conv => whnf
          exact hX _ (lay (Or.inr c2))
        · have c1 : ¬ h.1 26 s = 0 := c1
          have c2 : ¬ h.1 26 s = 1 := c2
          conv => whnf
          rw [nI_1, wvF_f (V := h.1 26) (fun q => q.elim c1 c2)]
          exact hX _ (ih (s + 1) (by omega))
    · exact absurd (by show nI s < h.1 4 7; rw [eN]; exact nI_lt (by omega) (by omega)) c
/-! Web.sortWays -/
theorem xor1 : ∀ w, w < 240 → nI w ^^^ 1 = nI (w ^^^ 1) ∧ w ^^^ 1 < 240 := by decide +kernel
/-- what leads says: st which ways stand, sr from which gauge they come -/
def ldOk (D : Nat → Int32) (st : Nat → Bool) (sr : Nat → Nat) : Prop := ∀ w, w < 240 → (st w = true → ¬ D w = -1 ∧ D (w ^^^ 1) = nI (sr w) ∧ sr w < 41) ∧ (st w = false → D w = -1)
def wcn (st : Nat → Bool) (sr : Nat → Nat) (g : Nat) : Nat → Nat := ct (fun w => st w && Nat.beq (sr w) g)
def wsm (st : Nat → Bool) (sr : Nat → Nat) : Nat → Nat
  | 0 => 0
  | g + 1 => wsm st sr g + wcn st sr g 240
theorem wcn_t {st : Nat → Bool} {sr : Nat → Nat} {w : Nat} (h : st w = true) : wcn st sr (sr w) (w + 1) = wcn st sr (sr w) w + 1 := ct_t (by simp [h])
theorem wcn_o {st : Nat → Bool} {sr : Nat → Nat} {g w : Nat} (h : ¬ (st w = true ∧ sr w = g)) : wcn st sr g (w + 1) = wcn st sr g w := by
  refine ct_f ?_
  cases hs : st w
  · simp
  · simp only [Bool.true_and]
    cases hq : Nat.beq (sr w) g
    · rfl
    · exact absurd ⟨hs, Nat.eq_of_beq_eq_true hq⟩ h
def bg1 (st : Nat → Bool) (sr : Nat → Nat) (f : Nat → Int32) (w : Nat) : Nat → Int32 := fun j => if j < 42 then (if j = 0 then 0 else nI (wcn st sr (j - 1) w)) else f j
theorem bg1_0 (st : Nat → Bool) (sr : Nat → Nat) (f : Nat → Int32) : bg1 st sr f 0 = flF f 42 0 := by
  funext j
  simp only [bg1, flF]
  by_cases h : j < 42
  · rw [if_pos h, if_pos h]
    by_cases h0 : j = 0
    · rw [if_pos h0]
    · rw [if_neg h0]; rfl
  · rw [if_neg h, if_neg h]
theorem bg1_f {st : Nat → Bool} {sr : Nat → Nat} {f : Nat → Int32} {w : Nat} (h : st w = false) : bg1 st sr f w = bg1 st sr f (w + 1) := by
  funext j
  simp only [bg1]
  rw [wcn_o (fun q => by rw [h] at q; cases q.1)]
theorem bg1_t {st : Nat → Bool} {sr : Nat → Nat} {f : Nat → Int32} {w : Nat} (h : st w = true) (hs : sr w < 41) : upd (bg1 st sr f w) (sr w + 1) (bg1 st sr f w (sr w + 1) + 1) = bg1 st sr f (w + 1) := by
  funext j
  simp only [upd, bg1]
  by_cases hj : j = sr w + 1
  · subst hj
    rw [if_pos rfl, if_pos (show sr w + 1 < 42 by omega), if_neg (show ¬ sr w + 1 = 0 by omega), Nat.add_sub_cancel, wcn_t h, nI_succ, if_pos (show sr w + 1 < 42 by omega), if_neg (show ¬ sr w + 1 = 0 by omega)]
  · rw [if_neg hj]
    by_cases h1 : j < 42
    · rw [if_pos h1, if_pos h1]
      by_cases h0 : j = 0
      · rw [if_pos h0, if_pos h0]
      · rw [if_neg h0, if_neg h0, wcn_o (fun q => hj (by omega))]
    · rw [if_neg h1, if_neg h1]
/-- begins in the second loop: below and at g summed up -/
def bg2 (st : Nat → Bool) (sr : Nat → Nat) (f : Nat → Int32) (g : Nat) : Nat → Int32 := fun j => if j < 42 then (if j ≤ g then nI (wsm st sr j) else nI (wcn st sr (j - 1) 240)) else f j
theorem bg2_0 (st : Nat → Bool) (sr : Nat → Nat) (f : Nat → Int32) : bg1 st sr f 240 = bg2 st sr f 0 := by
  funext j
  simp only [bg1, bg2]
  by_cases h : j < 42
  · rw [if_pos h, if_pos h]
    by_cases h0 : j = 0
    · subst h0; rw [if_pos rfl, if_pos (Nat.le_refl 0)]; rfl
    · rw [if_neg h0, if_neg (by omega)]
  · rw [if_neg h, if_neg h]
theorem bg2_s {st : Nat → Bool} {sr : Nat → Nat} {f : Nat → Int32} {g : Nat} (hg : g < 41) : upd (bg2 st sr f g) (g + 1) (bg2 st sr f g (g + 1) + bg2 st sr f g g) = bg2 st sr f (g + 1) := by
  have e1 : bg2 st sr f g (g + 1) = nI (wcn st sr g 240) := by
    simp only [bg2]
    rw [if_pos (show g + 1 < 42 by omega), if_neg (by omega), Nat.add_sub_cancel]
  have e2 : bg2 st sr f g g = nI (wsm st sr g) := by
    simp only [bg2]
    rw [if_pos (show g < 42 by omega), if_pos (Nat.le_refl g)]
  rw [e1, e2, nI_add]
  funext j
  simp only [upd, bg2]
  by_cases hj : j = g + 1
  · subst hj
    rw [if_pos rfl, if_pos (show g + 1 < 42 by omega), if_pos (Nat.le_refl _), wsm, Nat.add_comm]
  · rw [if_neg hj]
    by_cases h1 : j < 42
    · rw [if_pos h1, if_pos h1]
      by_cases h2 : j ≤ g
      · rw [if_pos h2, if_pos (by omega)]
      · rw [if_neg h2, if_neg (by omega)]
    · rw [if_neg h1, if_neg h1]
theorem wcn_le (st : Nat → Bool) (sr : Nat → Nat) (g w : Nat) : wcn st sr g w ≤ w := ct_le _ w
theorem wcn_mono {st : Nat → Bool} {sr : Nat → Nat} {g a : Nat} : ∀ {b : Nat}, a ≤ b → wcn st sr g a ≤ wcn st sr g b
  | 0, h => by rw [show a = 0 by omega]; exact Nat.le_refl _
  | b + 1, h => by
    by_cases he : a = b + 1
    · rw [he]; exact Nat.le_refl _
    · have := wcn_mono (st := st) (sr := sr) (g := g) (a := a) (b := b) (by omega)
      have h2 : wcn st sr g b ≤ wcn st sr g (b + 1) := by
        show ct _ b ≤ ct _ (b + 1)
        rw [ct]
        omega
      omega
theorem wsm_mono {st : Nat → Bool} {sr : Nat → Nat} {a : Nat} : ∀ {b : Nat}, a ≤ b → wsm st sr a ≤ wsm st sr b
  | 0, h => by rw [show a = 0 by omega]; exact Nat.le_refl _
  | b + 1, h => by
    by_cases he : a = b + 1
    · rw [he]; exact Nat.le_refl _
    · have := wsm_mono (st := st) (sr := sr) (a := a) (b := b) (by omega)
      rw [wsm]
      omega
/-- all ways that stand, by their gauges, are no more than 240 -/
theorem wsm_all (st : Nat → Bool) (sr : Nat → Nat) (g : Nat) : wsm st sr g ≤ 240 := by
  have key : ∀ (n g : Nat), (fun n g => ∃ f : Nat → Nat, f 0 = 0 ∧ (∀ k, f (k + 1) = f k + wcn st sr k n) ∧ f g ≤ n) n g := by
    intro n
    induction n with
    | zero =>
      intro g
      refine ⟨fun _ => 0, rfl, fun k => rfl, Nat.le_refl 0⟩
    | succ n ih =>
      intro g
      by_cases hs : st n = true
      · obtain ⟨f, f0, fs, -⟩ := ih g
        refine ⟨fun k => f k + (if sr n < k then 1 else 0), by simp [f0], fun k => ?_, ?_⟩
        · show f (k + 1) + _ = f k + _ + _
          rw [fs k]
          by_cases hk : sr n = k
          · subst hk
            rw [wcn_t hs, if_pos (by omega), if_neg (by omega)]
            omega
          · rw [wcn_o (fun q => hk q.2)]
            by_cases h2 : sr n < k
            · rw [if_pos (by omega), if_pos h2]; omega
            · rw [if_neg (by omega), if_neg h2]; omega
        · obtain ⟨f', f0', fs', fl'⟩ := ih g
          have ee : ∀ k, f k = f' k := by
            intro k
            induction k with
            | zero => rw [f0, f0']
            | succ k ihk => rw [fs, fs', ihk]
          show f g + _ ≤ n + 1
          rw [ee g]
          split <;> omega
      · obtain ⟨f, f0, fs, fl⟩ := ih g
        refine ⟨f, f0, fun k => ?_, by omega⟩
        rw [fs k, wcn_o (fun q => hs q.1)]
  obtain ⟨f, f0, fs, fl⟩ := key 240 g
  have ee : ∀ k, wsm st sr k = f k := by
    intro k
    induction k with
    | zero => rw [f0]; rfl
    | succ k ihk => rw [wsm, fs, ihk]
  rw [ee]
  exact fl
/-- each way that stands, below w, lies in its gauge's piece of the row, in order -/
def wyOk (st : Nat → Bool) (sr : Nat → Nat) (Y : Nat → Int32) (w : Nat) : Prop := ∀ v, v < w → st v = true → Y (wsm st sr (sr v) + wcn st sr (sr v) v) = nI v
theorem wy_pos {st : Nat → Bool} {sr : Nat → Nat} {v : Nat} (hv : v < 240) (hs : st v = true) : wsm st sr (sr v) + wcn st sr (sr v) v < wsm st sr (sr v + 1) := by
  rw [wsm]
  have h1 := wcn_t (st := st) (sr := sr) hs
  have h2 := wcn_mono (st := st) (sr := sr) (g := sr v) (show v + 1 ≤ 240 by omega)
  omega
theorem wyOk_s {st : Nat → Bool} {sr : Nat → Nat} {Y : Nat → Int32} {w : Nat} (hw : w < 240) (h : wyOk st sr Y w) (hs : st w = true) : wyOk st sr (upd Y (wsm st sr (sr w) + wcn st sr (sr w) w) (nI w)) (w + 1) := by
  intro v hv hsv
  simp only [upd]
  by_cases hvw : v = w
  · subst hvw; rw [if_pos rfl]
  · rw [if_neg ?_]
    · exact h v (by omega) hsv
    · intro he
      have p1 := wy_pos (sr := sr) (show v < 240 by omega) hsv
      have p2 := wy_pos (sr := sr) hw hs
      rcases Nat.lt_trichotomy (sr v) (sr w) with q | q | q
      · have := wsm_mono (st := st) (sr := sr) (show sr v + 1 ≤ sr w by omega)
        omega
      · rw [q] at he p1
        have h1 := wcn_t (st := st) (sr := sr) hsv
        have h2 := wcn_mono (st := st) (sr := sr) (g := sr v) (show v + 1 ≤ w by omega)
        rw [q] at h1 h2
        omega
      · have := wsm_mono (st := st) (sr := sr) (show sr w + 1 ≤ sr v by omega)
        omega
theorem wyOk_f {st : Nat → Bool} {sr : Nat → Nat} {Y : Nat → Int32} {w : Nat} (h : wyOk st sr Y w) (hs : st w = false) : wyOk st sr Y (w + 1) := by
  intro v hv hsv
  by_cases hvw : v = w
  · subst hvw; rw [hs] at hsv; cases hsv
  · exact h v (by omega) hsv
/-- sorted in the third loop -/
def srF (st : Nat → Bool) (sr : Nat → Nat) (f : Nat → Int32) (w : Nat) : Nat → Int32 := fun g => if g < 41 then nI (wcn st sr g w) else f g
theorem srF_0 (st : Nat → Bool) (sr : Nat → Nat) (f : Nat → Int32) : srF st sr f 0 = flF f 41 0 := by
  funext g
  simp only [srF, flF]
  rfl
theorem srF_f {st : Nat → Bool} {sr : Nat → Nat} {f : Nat → Int32} {w : Nat} (h : st w = false) : srF st sr f w = srF st sr f (w + 1) := by
  funext g
  simp only [srF]
  rw [wcn_o (fun q => by rw [h] at q; cases q.1)]
theorem srF_t {st : Nat → Bool} {sr : Nat → Nat} {f : Nat → Int32} {w : Nat} (h : st w = true) (hs : sr w < 41) : upd (srF st sr f w) (sr w) (srF st sr f w (sr w) + 1) = srF st sr f (w + 1) := by
  funext g
  simp only [upd, srF]
  by_cases hg : g = sr w
  · subst hg
    rw [if_pos rfl, if_pos hs, if_pos hs, wcn_t h, nI_succ]
  · rw [if_neg hg]
    by_cases h1 : g < 41
    · rw [if_pos h1, if_pos h1, wcn_o (fun q => hg q.2.symm)]
    · rw [if_neg h1, if_neg h1]
theorem l_sort1 (h : ia_H) (st : Nat → Bool) (sr : Nat → Nat) (hD : ldOk (h.1 30) st sr) (f : Nat → Int32) {Z : Option Value → ia_H → Prop} (hN : ∀ w : Option Value, R_ ia_k_X6_sortWays Z (52, [some (.ref 29), w, none], [], hsI h 32 (bg1 st sr f 240))) : ∀ k w : Nat, w + k = 240 → R_ ia_k_X6_sortWays Z (10, [some (.ref 29), some (.int (nI w)), none], [], hsI h 32 (bg1 st sr f w)) := by
  intro k
  induction k with
  | zero =>
    intro w hw
    rw [show w = 240 by omega]
    refine ia_walk (fun pc => Nat.beq pc 52) 50 (fun X hX => ?_)
    conv => whnf
    refine And.intro (fun c => ?_) (fun c => ?_)
    · exact absurd c (by decide)
    · conv => whnf
      exact hX _ (hN _)
  | succ k ih =>
    intro w hw
    have hlt : w < 240 := by omega
    obtain ⟨x1, x2⟩ := xor1 w hlt
    refine ia_walk (fun pc => Nat.beq pc 10) 60 (fun X hX => ?_)
    conv => whnf
    refine And.intro (fun c => ?_) (fun c => ?_)
    · conv => whnf
      refine Exists.intro _ (And.intro (And.intro rfl (by omega)) ?_)
      conv => whnf
      refine And.intro (fun c1 => ?_) (fun c1 => ?_)
      · have hs : st w = false := by
          cases hq : st w
          · rfl
          · exact absurd c1 ((hD w hlt).1 hq).1
        conv => whnf
        rw [nI_1, bg1_f hs]
        exact hX _ (ih (w + 1) (by omega))
      · have hs : st w = true := by
          cases hq : st w
          · exact absurd ((hD w hlt).2 hq) c1
          · rfl
        obtain ⟨d1, d2, d3⟩ := (hD w hlt).1 hs
        conv => whnf
        refine Exists.intro (w ^^^ 1) (And.intro (And.intro (x1) (x2)) ?_)
        conv => whnf
        refine Exists.intro (sr w + 1) (And.intro (And.intro ((show h.1 30 (w ^^^ 1) + 1 = nI (sr w + 1) by rw [d2]; exact nI_1 _)) (by omega)) ?_)
        conv => whnf
        refine Exists.intro (sr w + 1) (And.intro (And.intro ((show h.1 30 (w ^^^ 1) + 1 = nI (sr w + 1) by rw [d2]; exact nI_1 _)) (by omega)) ?_)
        conv => whnf
        rw [nI_1]
        have e : hsI (hsI h 32 (bg1 st sr f w)) 32 (upd (bg1 st sr f w) (sr w + 1) (bg1 st sr f w (sr w + 1) + 1)) = hsI h 32 (bg1 st sr f (w + 1)) := by rw [hsI_same, bg1_t hs d3]
        exact hX _ (e ▸ ih (w + 1) (by omega) : ia_Run _ _ _ _ (10, _, _, hsI (hsI h 32 (bg1 st sr f w)) 32 (upd (bg1 st sr f w) (sr w + 1) (bg1 st sr f w (sr w + 1) + 1))))
    · exact absurd (show nI w < 240 from nI_lt (b := 240) hlt (by omega)) c
theorem l_sort2 (h : ia_H) (st : Nat → Bool) (sr : Nat → Nat) (f : Nat → Int32) {Z : Option Value → ia_H → Prop} (hN : ∀ w : Option Value, R_ ia_k_X6_sortWays Z (83, [some (.ref 29), w, none], [], hsI h 32 (bg2 st sr f 41))) : ∀ k g : Nat, g + k = 41 → R_ ia_k_X6_sortWays Z (54, [some (.ref 29), some (.int (nI g)), none], [], hsI h 32 (bg2 st sr f g)) := by
  intro k
  induction k with
  | zero =>
    intro g hg
    rw [show g = 41 by omega]
    refine ia_walk (fun pc => Nat.beq pc 83) 50 (fun X hX => ?_)
    conv => whnf
    refine And.intro (fun c => ?_) (fun c => ?_)
    · exact absurd c (by decide)
    · conv => whnf
      exact hX _ (hN _)
  | succ k ih =>
    intro g hg
    refine ia_walk (fun pc => Nat.beq pc 54) 60 (fun X hX => ?_)
    conv => whnf
    refine And.intro (fun c => ?_) (fun c => ?_)
    · conv => whnf
      refine Exists.intro (g + 1) (And.intro (And.intro (nI_1 g) (by omega)) ?_)
      conv => whnf
      refine Exists.intro _ (And.intro (And.intro rfl (by omega)) ?_)
      conv => whnf
      refine Exists.intro (g + 1) (And.intro (And.intro (nI_1 g) (by omega)) ?_)
      conv => whnf
      rw [nI_1]
      have e : hsI (hsI h 32 (bg2 st sr f g)) 32 (upd (bg2 st sr f g) (g + 1) (bg2 st sr f g (g + 1) + bg2 st sr f g g)) = hsI h 32 (bg2 st sr f (g + 1)) := by rw [hsI_same, bg2_s (by omega)]
      exact hX _ (e ▸ ih (g + 1) (by omega) : ia_Run _ _ _ _ (54, _, _, hsI (hsI h 32 (bg2 st sr f g)) 32 (upd (bg2 st sr f g) (g + 1) (bg2 st sr f g (g + 1) + bg2 st sr f g g))))
    · exact absurd ((nI_lt41 (by omega)).mpr (by omega)) c
end
section
/-! sortWays: the third loop; sortWays and weave whole -/
def hY (h : ia_H) (f Y : Nat → Int32) : ia_H := hsI (hsI h 33 f) 31 Y
theorem hY_31 (h : ia_H) (f Y Y2 : Nat → Int32) : hsI (hY h f Y) 31 Y2 = hY h f Y2 := hsI_same _ _ _ _
theorem hY_33 (h : ia_H) (f f2 Y : Nat → Int32) : hsI (hY h f Y) 33 f2 = hY h f2 Y := by
  unfold hY
  rw [hsI_comm _ (by decide : (31 : Nat) ≠ 33), hsI_same]
theorem l_sort3 (h : ia_H) (st : Nat → Bool) (sr : Nat → Nat) (hD : ldOk (h.1 30) st sr) (hb : ∀ j, j < 42 → h.1 32 j = nI (wsm st sr j)) (f : Nat → Int32) {Z : Option Value → ia_H → Prop} (hN : ∀ Y : Nat → Int32, wyOk st sr Y 240 → Z none (hY h (srF st sr f 240) Y)) : ∀ (k w : Nat) (Y : Nat → Int32) (u : Option Value), w + k = 240 → wyOk st sr Y w → R_ ia_k_X6_sortWays Z (93, [some (.ref 29), some (.int (nI w)), u], [], hY h (srF st sr f w) Y) := by
  intro k
  induction k with
  | zero =>
    intro w Y u hw hy
    have ew : w = 240 := by omega
    subst ew
    refine ia_walk (fun pc => Nat.beq pc 93) 50 (fun X hX => ?_)
    conv => whnf
    refine And.intro (fun c => ?_) (fun c => ?_)
    · exact absurd c (by decide)
    · conv => whnf
      exact hN Y hy
  | succ k ih =>
    intro w Y u hw hy
    have hlt : w < 240 := by omega
    obtain ⟨x1, x2⟩ := xor1 w hlt
    refine ia_walk (fun pc => Nat.beq pc 93) 70 (fun X hX => ?_)
    conv => whnf
    refine And.intro (fun c => ?_) (fun c => ?_)
    · conv => whnf
      refine Exists.intro _ (And.intro (And.intro rfl (by omega)) ?_)
      conv => whnf
      refine And.intro (fun c1 => ?_) (fun c1 => ?_)
      · have hs : st w = false := by
          cases hq : st w
          · rfl
          · exact absurd c1 ((hD w hlt).1 hq).1
        conv => whnf
        rw [nI_1, srF_f hs]
        exact hX _ (ih (w + 1) Y _ (by omega) (wyOk_f hy hs))
      · have hs : st w = true := by
          cases hq : st w
          · exact absurd ((hD w hlt).2 hq) c1
          · rfl
        obtain ⟨d1, d2, d3⟩ := (hD w hlt).1 hs
        have d2 : h.1 30 (w ^^^ 1) = nI (sr w) := d2
        have e3 : srF st sr f w (sr w) = nI (wcn st sr (sr w) w) := if_pos d3
        have pp := wy_pos (sr := sr) hlt hs
        have pa := wsm_all st sr (sr w + 1)
        conv => whnf
        refine Exists.intro (w ^^^ 1) (And.intro (And.intro (x1) (x2)) ?_)
        conv => whnf
        refine Exists.intro (sr w) (And.intro (And.intro (d2) (by omega)) ?_)
        conv => whnf
        refine Exists.intro (sr w) (And.intro (And.intro (d2) (d3)) ?_)
        conv => whnf
        refine Exists.intro (wsm st sr (sr w) + wcn st sr (sr w) w) (And.intro (And.intro ((show h.1 32 (sr w) + srF st sr f w (sr w) = _ by rw [hb _ (by omega), e3, nI_add])) (by omega)) ?_)
        conv => whnf
        refine Exists.intro (sr w) (And.intro (And.intro (d2) (d3)) ?_)
        conv => whnf
        refine Exists.intro (sr w) (And.intro (And.intro (d2) (d3)) ?_)
        conv => whnf
        rw [nI_1]
        have e : hsI (hsI (hY h (srF st sr f w) Y) 31 (upd Y (wsm st sr (sr w) + wcn st sr (sr w) w) (nI w))) 33 (upd (srF st sr f w) (sr w) (srF st sr f w (sr w) + 1)) = hY h (srF st sr f (w + 1)) (upd Y (wsm st sr (sr w) + wcn st sr (sr w) w) (nI w)) := by rw [hY_31, hY_33, srF_t hs d3]
        exact hX _ (e ▸ ih (w + 1) _ _ (by omega) (wyOk_s hlt hy hs) : ia_Run _ _ _ _ (93, _, _, hsI (hsI (hY h (srF st sr f w) Y) 31 (upd Y (wsm st sr (sr w) + wcn st sr (sr w) w) (nI w))) 33 (upd (srF st sr f w) (sr w) (srF st sr f w (sr w) + 1))))
    · exact absurd (show nI w < 240 from nI_lt (b := 240) hlt (by omega)) c
/-- begins as sortWays leaves it -/
def bgF (st : Nat → Bool) (sr : Nat → Nat) (f : Nat → Int32) : Nat → Int32 := bg2 st sr f 41
theorem bgF_at {st : Nat → Bool} {sr : Nat → Nat} {f : Nat → Int32} {j : Nat} (h : j < 42) : bgF st sr f j = nI (wsm st sr j) := by
  simp only [bgF, bg2]
  rw [if_pos h, if_pos (by omega)]
theorem v_sortWays (h : ia_H) (st : Nat → Bool) (sr : Nat → Nat) (hD : ldOk (h.1 30) st sr) : V_ 42 [.ref 29] h (fun r h' => r = none ∧ ∃ Y, wyOk st sr Y 240 ∧ h' = hY (hsI h 32 (bgF st sr (h.1 32))) (srF st sr (h.1 33) 240) Y) := by
  refine ia_V_in ia_k_X6_sortWays [some (.ref 29), none, none] rfl rfl (Nat.le_of_ble_eq_true rfl) rfl ?_
  refine ia_walk (fun pc => Nat.beq pc 10) 50 (fun X hX => ?_)
  conv => whnf
  refine Exists.intro (_, _) (And.intro (ia_callE (v_fill_begins h 0)) ?_)
  conv => whnf
  rw [← bg1_0 st sr (h.1 32)]
  refine hX _ (l_sort1 h st sr hD (h.1 32) (fun w => ?_) 240 0 rfl)
  refine ia_walk (fun pc => Nat.beq pc 54) 50 (fun X hX => ?_)
  conv => whnf
  rw [bg2_0]
  refine hX _ (l_sort2 h st sr (h.1 32) (fun w => ?_) 41 0 rfl)
  refine ia_walk (fun pc => Nat.beq pc 93) 50 (fun X hX => ?_)
  conv => whnf
  refine Exists.intro (_, _) (And.intro (ia_callE (v_fill_sorted (hsI h 32 (bgF st sr (h.1 32))) 0)) ?_)
  conv => whnf
  have l3 := l_sort3 (hsI h 32 (bgF st sr (h.1 32))) st sr hD (fun j hj => bgF_at hj) (h.1 33) (Z := fun r h' => r = none ∧ ∃ Y, wyOk st sr Y 240 ∧ h' = hY (hsI h 32 (bgF st sr (h.1 32))) (srF st sr (h.1 33) 240) Y) (fun Y hy => ⟨rfl, Y, hy, rfl⟩) 240 0 (h.1 31) none rfl (fun v hv => absurd hv (Nat.not_lt_zero v))
  rw [srF_0] at l3
  have e : hY (hsI h 32 (bgF st sr (h.1 32))) (flF (h.1 33) 41 0) (h.1 31) = hsI (hsI h 32 (bgF st sr (h.1 32))) 33 (flF (h.1 33) 41 0) := hsI_eta (hsI (hsI h 32 (bgF st sr (h.1 32))) 33 (flF (h.1 33) 41 0)) 31
  rw [e] at l3
  exact hX _ l3
/-- what weave makes of leads -/
def ldF (h : ia_H) (n : Nat) : Nat → Int32 := wvF (h.1 7) (h.1 8) (h.1 26) (h.1 30) n
theorem v_weave (h : ia_H) (n : Nat) (hn : n ≤ 120) (eN : h.1 4 7 = nI n) (st : Nat → Bool) (sr : Nat → Nat) (hD : ldOk (ldF h n) st sr) : V_ 41 [.ref 29, .ref 4, .ref 25] h (fun r h' => r = none ∧ ∃ Y, wyOk st sr Y 240 ∧ h' = hY (hsI (hsI h 30 (ldF h n)) 32 (bgF st sr (h.1 32))) (srF st sr (h.1 33) 240) Y) := by
  refine ia_V_in ia_k_X6_weave [some (.ref 29), some (.ref 4), some (.ref 25), none] rfl rfl (Nat.le_of_ble_eq_true rfl) rfl ?_
  refine ia_walk (fun pc => Nat.beq pc 10) 50 (fun X hX => ?_)
  conv => whnf
  refine Exists.intro (_, _) (And.intro (ia_callE (v_fill_leads h (-1))) ?_)
  conv => whnf
  rw [← wvF_0 (h.1 7) (h.1 8) (h.1 26) (h.1 30)]
  refine hX _ (l_weave h n hn eN (h.1 30) (fun w => ?_) n 0 (by omega))
  refine ia_walk (fun _ => false) 50 (fun X hX => ?_)
  conv => whnf
  obtain ⟨r, h2, ev, z1, Y, z2, z3⟩ := v_sortWays (hsI h 30 (ldF h n)) st sr hD
  refine Exists.intro (r, h2) (And.intro ev ?_)
  subst z1
  conv => whnf
  exact ⟨rfl, Y, z2, z3⟩
end
section
/-! Web: hasRoom, mark, forgetReached -/
theorem and1 : ∀ w, w < 240 → nI w &&& 1 = nI (w % 2) := by decide +kernel
theorem shr1 : ∀ w, w < 240 → nI w >>> ((1 : Int32) &&& 31) = nI (w / 2) := by decide +kernel
def rmF (fl : Nat → Int32) (w : Nat) : Bool := if w % 2 = 0 then decide (fl (w / 2) < 1) else decide (-1 < fl (w / 2))
theorem v_hasRoom (h : ia_H) (w : Nat) (hw : w < 240) : V_ 47 [.ref 29, .int (nI w)] h (Z_ (.int (bif rmF (h.1 39) w then 1 else 0)) h) := by
  have e1 := and1 w hw
  have e2 := shr1 w hw
  refine ia_V_in ia_k_X6_hasRoom [some (.ref 29), some (.int (nI w))] rfl rfl (Nat.le_of_ble_eq_true rfl) rfl ?_
  refine ia_walk (fun _ => false) 50 (fun X hX => ?_)
  conv => whnf
  refine And.intro (fun c => ?_) (fun c => ?_)
  · have c0 : w % 2 = 0 := by
      rw [e1] at c
      exact nI_inj (by omega) (by omega) c
    conv => whnf
    refine Exists.intro (w / 2) (And.intro (And.intro (e2) (by omega)) ?_)
    conv => whnf
    refine And.intro (fun c2 => ?_) (fun c2 => ?_)
    · conv => whnf
      exact ⟨Or.inr rfl, by unfold rmF; rw [if_pos c0, decide_eq_true c2]; rfl, rfl⟩
    · conv => whnf
      exact ⟨Or.inl rfl, by unfold rmF; rw [if_pos c0, decide_eq_false c2]; rfl, rfl⟩
  · have c0 : ¬ w % 2 = 0 := fun q => c (by rw [e1, q]; rfl)
    conv => whnf
    refine Exists.intro (w / 2) (And.intro (And.intro (e2) (by omega)) ?_)
    conv => whnf
    refine And.intro (fun c2 => ?_) (fun c2 => ?_)
    · conv => whnf
      exact ⟨Or.inr rfl, by unfold rmF; rw [if_neg c0, decide_eq_true c2]; rfl, rfl⟩
    · conv => whnf
      exact ⟨Or.inl rfl, by unfold rmF; rw [if_neg c0, decide_eq_false c2]; rfl, rfl⟩
/-- the heap with what has been reached put in: the row, steps, reachedBy, how many -/
def hB (h : ia_H) (R d b : Nat → Int32) (c : Nat) : ia_H := hsI (hsI (hsI (hsI h 36 R) 37 d) 38 b) 29 (upd (h.1 29) 7 (nI c))
theorem hB_36 (h : ia_H) (R d b R2 : Nat → Int32) (c : Nat) : hsI (hB h R d b c) 36 R2 = hB h R2 d b c := by
  unfold hB
  rw [hsI_comm _ (by decide : (29 : Nat) ≠ 36), hsI_comm _ (by decide : (38 : Nat) ≠ 36), hsI_comm _ (by decide : (37 : Nat) ≠ 36), hsI_same]
theorem hB_37 (h : ia_H) (R d b d2 : Nat → Int32) (c : Nat) : hsI (hB h R d b c) 37 d2 = hB h R d2 b c := by
  unfold hB
  rw [hsI_comm _ (by decide : (29 : Nat) ≠ 37), hsI_comm _ (by decide : (38 : Nat) ≠ 37), hsI_same]
theorem hB_38 (h : ia_H) (R d b b2 : Nat → Int32) (c : Nat) : hsI (hB h R d b c) 38 b2 = hB h R d b2 c := by
  unfold hB
  rw [hsI_comm _ (by decide : (29 : Nat) ≠ 38), hsI_same]
theorem upd_upd (f : Nat → Int32) (i : Nat) (x y : Int32) : upd (upd f i x) i y = upd f i y := by
  funext j
  simp only [upd]
  by_cases hj : j = i <;> simp [hj]
theorem hB_29 (h : ia_H) (R d b : Nat → Int32) (c c2 : Nat) : hsI (hB h R d b c) 29 (upd (upd (h.1 29) 7 (nI c)) 7 (nI c2)) = hB h R d b c2 := by
  unfold hB
  rw [hsI_same, upd_upd]
theorem v_mark (h : ia_H) (R d b : Nat → Int32) (c g : Nat) (far way : Int32) (hc : c < 41) (hg : g < 41) : V_ 45 [.ref 29, .int (nI g), .int far, .int way] (hB h R d b c) (fun r h' => r = none ∧ h' = hB h (upd R c (nI g)) (upd d g far) (upd b g way) (c + 1)) := by
  have e7 : upd (h.1 29) 7 (nI c) 7 = nI c := by simp [upd]
  refine ia_V_in ia_k_X6_mark [some (.ref 29), some (.int (nI g)), some (.int far), some (.int way)] rfl rfl (Nat.le_of_ble_eq_true rfl) rfl ?_
  refine ia_walk (fun _ => false) 60 (fun X hX => ?_)
  conv => whnf
  refine Exists.intro _ (And.intro (And.intro rfl (hg)) ?_)
  conv => whnf
  refine Exists.intro _ (And.intro (And.intro rfl (hg)) ?_)
  conv => whnf
  refine And.intro (fun c1 => ?_) (fun c1 => ?_)
  · conv => whnf
    refine Exists.intro (c) (And.intro (And.intro (e7) (hc)) ?_)
    conv => whnf
    refine ⟨rfl, ?_⟩
    show hsI (hsI (hsI (hsI (hB h R d b c) 37 (upd d g far)) 38 (upd b g way)) 36 (upd R c (nI g))) 29 (upd (upd (h.1 29) 7 (nI c)) 7 (upd (h.1 29) 7 (nI c) 7 + 1)) = _
    rw [e7, nI_1, hB_37, hB_38, hB_36, hB_29]
  · exact absurd (show upd (h.1 29) 7 (nI c) 7 < 41 by rw [e7]; exact (nI_lt41 (by omega)).mpr hc) c1
theorem v_forget (h : ia_H) (R d b : Nat → Int32) (c : Nat) : V_ 44 [.ref 29] (hB h R d b c) (fun r h' => r = none ∧ h' = hB h R (flF d 41 (-1)) b 0) := by
  refine ia_V_in ia_k_X6_forgetReached [some (.ref 29)] rfl rfl (Nat.le_of_ble_eq_true rfl) rfl ?_
  refine ia_walk (fun _ => false) 60 (fun X hX => ?_)
  conv => whnf
  refine Exists.intro (_, _) (And.intro (ia_callE (v_fill_steps (hB h R d b c) (-1))) ?_)
  conv => whnf
  refine ⟨rfl, ?_⟩
  show hsI (hsI (hB h R d b c) 37 (flF d 41 (-1))) 29 (upd (upd (h.1 29) 7 (nI c)) 7 0) = _
  rw [hB_37]
  exact hB_29 h R (flF d 41 (-1)) b c 0
/-! what can be reached, as lists: q the gauges in order; d, b: how far, by which way -/
abbrev bsT : Type := List Nat × (Nat → Int32) × (Nat → Int32)
/-- a way is gone, or not -/
def bsS (rm : Nat → Bool) (dt : Nat → Nat) (at_ : Nat) (S : bsT) (w : Nat) : bsT := if dt w ∈ S.1 ∨ rm w = false then S else (S.1 ++ [dt w], upd S.2.1 (dt w) (S.2.1 at_ + 1), upd S.2.2 (dt w) (nI w))
/-- all ways below w that come from a gauge -/
def bsW (st : Nat → Bool) (sr dt : Nat → Nat) (rm : Nat → Bool) (at_ : Nat) (S : bsT) : Nat → bsT
  | 0 => S
  | w + 1 => if st w = true ∧ sr w = at_ then bsS rm dt at_ (bsW st sr dt rm at_ S w) w else bsW st sr dt rm at_ S w
/-- from the i-th reached gauge on -/
def bsR (st : Nat → Bool) (sr dt : Nat → Nat) (rm : Nat → Bool) : Nat → Nat → bsT → bsT
  | 0, _, S => S
  | k + 1, i, S => if h : i < S.1.length then bsR st sr dt rm k (i + 1) (bsW st sr dt rm (S.1[i]) S 240) else S
/-- reached rightly: apart, gauges below m, those not reached have no step -/
def bsOk (m : Nat) (S : bsT) : Prop := S.1.Nodup ∧ (∀ g ∈ S.1, g < m ∧ ∃ k, k < S.1.length ∧ S.2.1 g = nI k) ∧ ∀ g, g < 41 → ¬ g ∈ S.1 → S.2.1 g = -1
theorem nodup_len : ∀ {m : Nat} {q : List Nat}, q.Nodup → (∀ g ∈ q, g < m) → q.length ≤ m
  | 0, [], _, _ => Nat.le_refl 0
  | 0, x :: q, _, h => absurd (h x List.mem_cons_self) (Nat.not_lt_zero x)
  | m + 1, q, hn, h => by
    by_cases hm : m ∈ q
    · have h1 : (q.erase m).length = q.length - 1 := List.length_erase_of_mem hm
      have h2 := nodup_len (m := m) (hn.erase m) (fun g hg => by
        have g1 := List.mem_of_mem_erase hg
        have g2 := h g g1
        have g3 : g ≠ m := fun q => by rw [q] at hg; exact (List.Nodup.not_mem_erase hn) hg
        omega)
      have h3 : 0 < q.length := List.length_pos_of_mem hm
      omega
    · have := nodup_len (m := m) hn (fun g hg => by
        have g2 := h g hg
        have g3 : g ≠ m := fun q => hm (q ▸ hg)
        omega)
      omega
end
section
/-! Web.reachFrom -/
theorem nI_nm1 {k : Nat} (h : k < 2 ^ 31) : ¬ nI k = -1 := fun q => absurd (show nI k < 0 by rw [q]; decide) (nI_pos h)
theorem bsOk_len {m : Nat} {S : bsT} (h : bsOk m S) : S.1.length ≤ m := nodup_len h.1 (fun g hg => (h.2.1 g hg).1)
theorem bsOk_in {m : Nat} {S : bsT} (h : bsOk m S) (hm : m ≤ 41) {g : Nat} (hg : g < 41) : S.2.1 g = -1 ↔ ¬ g ∈ S.1 := by
  constructor
  · intro e hi
    obtain ⟨-, k, hk, ek⟩ := h.2.1 g hi
    have := bsOk_len h
    exact nI_nm1 (by omega) (ek.symm.trans e)
  · exact h.2.2 g hg
theorem bsOk_put {m : Nat} {S : bsT} (h : bsOk m S) {a t : Nat} {w : Int32} (ha : a ∈ S.1) (ht : ¬ t ∈ S.1) (hm : t < m) : bsOk m (S.1 ++ [t], upd S.2.1 t (S.2.1 a + 1), upd S.2.2 t w) := by
  refine ⟨?_, fun g hg => ?_, fun g hg hn => ?_⟩
  · rw [List.nodup_append]
    refine ⟨h.1, by simp, fun x hx y hy => ?_⟩
    rw [List.mem_singleton] at hy
    subst hy
    exact fun q => ht (q ▸ hx)
  · simp only [List.length_append, List.length_cons, List.length_nil]
    rcases List.mem_append.mp hg with q | q
    · obtain ⟨g1, k, k1, k2⟩ := h.2.1 g q
      refine ⟨g1, k, by omega, ?_⟩
      show upd S.2.1 t (S.2.1 a + 1) g = nI k
      rw [← k2]
      exact if_neg (show ¬ g = t from fun z => ht (z ▸ q))
    · rw [List.mem_singleton] at q
      subst q
      obtain ⟨-, k, k1, k2⟩ := h.2.1 a ha
      refine ⟨hm, k + 1, by omega, ?_⟩
      show upd S.2.1 g (S.2.1 a + 1) g = nI (k + 1)
      rw [k2, nI_1]
      exact if_pos rfl
  · have h1 : ¬ g ∈ S.1 := fun q => hn (List.mem_append_left _ q)
    have h2 : ¬ g = t := fun q => hn (List.mem_append_right _ (by rw [q]; exact List.mem_singleton.mpr rfl))
    show upd S.2.1 t (S.2.1 a + 1) g = -1
    rw [show upd S.2.1 t (S.2.1 a + 1) g = S.2.1 g from if_neg h2]
    exact h.2.2 g hg h1
/-- the web lies as weave leaves it -/
def wbOk (h : ia_H) (st : Nat → Bool) (sr dt : Nat → Nat) (m : Nat) : Prop := (∀ w, w < 240 → st w = true → h.1 30 w = nI (dt w) ∧ dt w < m ∧ sr w < m) ∧ (∀ j, j < 42 → h.1 32 j = nI (wsm st sr j)) ∧ wyOk st sr (h.1 31) 240
theorem bsW_ok {st : Nat → Bool} {sr dt : Nat → Nat} {rm : Nat → Bool} {m a : Nat} {S : bsT} (hd : ∀ w, w < 240 → st w = true → dt w < m) (h : bsOk m S) (ha : a ∈ S.1) : ∀ w, w ≤ 240 → bsOk m (bsW st sr dt rm a S w) ∧ a ∈ (bsW st sr dt rm a S w).1
  | 0, _ => ⟨h, ha⟩
  | w + 1, hw => by
    obtain ⟨i1, i2⟩ := bsW_ok (rm := rm) hd h ha w (by omega)
    rw [bsW]
    by_cases hc : st w = true ∧ sr w = a
    · rw [if_pos hc]
      unfold bsS
      by_cases hq : dt w ∈ (bsW st sr dt rm a S w).1 ∨ rm w = false
      · rw [if_pos hq]; exact ⟨i1, i2⟩
      · rw [if_neg hq]
        exact ⟨bsOk_put i1 i2 (fun z => hq (Or.inl z)) (hd w (by omega) hc.1), List.mem_append_left _ i2⟩
    · rw [if_neg hc]; exact ⟨i1, i2⟩
theorem bsW_skip {st : Nat → Bool} {sr dt : Nat → Nat} {rm : Nat → Bool} {a w : Nat} {S : bsT} : ∀ {v : Nat}, w ≤ v → (∀ u, w ≤ u → u < v → ¬ (st u = true ∧ sr u = a)) → bsW st sr dt rm a S v = bsW st sr dt rm a S w ∧ wcn st sr a v = wcn st sr a w
  | 0, h, _ => by rw [show w = 0 by omega]; exact ⟨rfl, rfl⟩
  | v + 1, h, hn => by
    by_cases he : w = v + 1
    · rw [he]; exact ⟨rfl, rfl⟩
    · obtain ⟨i1, i2⟩ := bsW_skip (st := st) (sr := sr) (dt := dt) (rm := rm) (a := a) (w := w) (S := S) (v := v) (by omega) (fun u h1 h2 => hn u h1 (by omega))
      have hv := hn v (by omega) (by omega)
      rw [bsW, if_neg hv, wcn_o hv]
      exact ⟨i1, i2⟩
theorem wcn_next {st : Nat → Bool} {sr : Nat → Nat} {a : Nat} : ∀ (k w : Nat), w + k = 240 → wcn st sr a w < wcn st sr a 240 → ∃ v, w ≤ v ∧ v < 240 ∧ st v = true ∧ sr v = a ∧ ∀ u, w ≤ u → u < v → ¬ (st u = true ∧ sr u = a)
  | 0, w, hw, h => by
    rw [show w = 240 by omega] at h
    exact absurd h (Nat.lt_irrefl _)
  | k + 1, w, hw, h => by
    by_cases hc : st w = true ∧ sr w = a
    · exact ⟨w, Nat.le_refl w, by omega, hc.1, hc.2, fun u h1 h2 => by omega⟩
    · rw [← wcn_o hc] at h
      obtain ⟨v, v1, v2, v3, v4, v5⟩ := wcn_next k (w + 1) (by omega) h
      refine ⟨v, by omega, v2, v3, v4, fun u h1 h2 => ?_⟩
      by_cases hu : u = w
      · rw [hu]; exact hc
      · exact v5 u (by omega) h2
/-- a row of gauges in an array -/
def rwOk (R : Nat → Int32) (q : List Nat) : Prop := ∀ i (hi : i < q.length), R i = nI (q[i])
theorem rwOk_put {R : Nat → Int32} {q : List Nat} (h : rwOk R q) (t : Nat) : rwOk (upd R q.length (nI t)) (q ++ [t]) := by
  intro i hi
  simp only [List.length_append, List.length_cons, List.length_nil] at hi
  by_cases he : i = q.length
  · subst he
    rw [List.getElem_append_right (Nat.le_refl _)]
    simp [upd]
  · rw [List.getElem_append_left (by omega)]
    rw [show upd R q.length (nI t) i = R i from if_neg he]
    exact h i (by omega)
theorem l_reach1 (h : ia_H) (st : Nat → Bool) (sr dt : Nat → Nat) (m : Nat) (hm : m ≤ 41) (hw : wbOk h st sr dt m) (g0 f0 : Int32) (n a : Nat) (ha : a < m) (S0 : bsT) (h0 : bsOk m S0) (ha0 : a ∈ S0.1) {Z : Option Value → ia_H → Prop}
    (hN : ∀ (R : Nat → Int32) (a5 a6 : Option Value), rwOk R (bsW st sr dt (rmF (h.1 39)) a S0 240).1 → R_ ia_k_X6_reachFrom Z (126, [some (.ref 29), some (.int g0), some (.int f0), some (.int (nI n)), some (.int (nI a)), a5, a6], [], hB h R (bsW st sr dt (rmF (h.1 39)) a S0 240).2.1 (bsW st sr dt (rmF (h.1 39)) a S0 240).2.2 (bsW st sr dt (rmF (h.1 39)) a S0 240).1.length)) :
    ∀ (k w : Nat), w ≤ 240 → wcn st sr a w + k = wcn st sr a 240 → ∀ (S : bsT), S = bsW st sr dt (rmF (h.1 39)) a S0 w → ∀ (R : Nat → Int32) (a6 : Option Value), rwOk R S.1 → R_ ia_k_X6_reachFrom Z (45, [some (.ref 29), some (.int g0), some (.int f0), some (.int (nI n)), some (.int (nI a)), some (.int (nI (wsm st sr a + wcn st sr a w))), a6], [], hB h R S.2.1 S.2.2 S.1.length) := by
  have ea1 : wsm st sr (a + 1) = wsm st sr a + wcn st sr a 240 := rfl
  have hall := wsm_all st sr (a + 1)
  intro k
  induction k with
  | zero =>
    intro w w1 w2 S hS R a6 hR
    have e : bsW st sr dt (rmF (h.1 39)) a S0 240 = bsW st sr dt (rmF (h.1 39)) a S0 w := by
      refine (bsW_skip w1 (fun u h1 h2 hc => ?_)).1
      have q1 := wcn_t (st := st) (sr := sr) hc.1
      rw [hc.2] at q1
      have q2 := wcn_mono (st := st) (sr := sr) (g := a) h1
      have q3 := wcn_mono (st := st) (sr := sr) (g := a) (show u + 1 ≤ 240 by omega)
      omega
    refine ia_walk (fun pc => Nat.beq pc 126) 50 (fun X hX => ?_)
    conv => whnf
    refine Exists.intro (a + 1) (And.intro (And.intro (nI_1 a) (by omega)) ?_)
    conv => whnf
    refine And.intro (fun c => ?_) (fun c => ?_)
    · exact absurd (show nI (wsm st sr a + wcn st sr a w) < h.1 32 (a + 1) from c) (by rw [hw.2.1 _ (by omega), ea1]; exact nI_nlt (by omega) (by omega))
    · conv => whnf
      rw [hS, ← e]
      rw [hS, ← e] at hR
      exact hX _ (hN R _ _ hR)
  | succ k ih =>
    intro w w1 w2 S hS R a6 hR
    obtain ⟨v, v1, v2, v3, v4, v5⟩ := wcn_next (st := st) (sr := sr) (a := a) (240 - w) w (by omega) (by omega)
    obtain ⟨s1, s2⟩ := bsW_skip (st := st) (sr := sr) (dt := dt) (rm := rmF (h.1 39)) (S := S0) v1 v5
    obtain ⟨okS, aS⟩ := bsW_ok (sr := sr) (rm := rmF (h.1 39)) (fun w hw' hs => (hw.1 w hw' hs).2.1) h0 ha0 w w1
    rw [← hS] at okS aS
    obtain ⟨l1, l2, -⟩ := hw.1 v v2 v3
    have eY : h.1 31 (wsm st sr a + wcn st sr a w) = nI v := by
      have := hw.2.2 v v2 v3
      rw [v4, s2] at this
      exact this
    have et := wcn_t (st := st) (sr := sr) v3
    rw [v4, s2] at et
    have em := wcn_mono (st := st) (sr := sr) (g := a) (show v + 1 ≤ 240 by omega)
    have eS : bsW st sr dt (rmF (h.1 39)) a S0 (v + 1) = bsS (rmF (h.1 39)) dt a S v := by rw [bsW, if_pos ⟨v3, v4⟩, s1, ← hS]
    have lenS := bsOk_len okS
    have next : ∀ (S2 : bsT) (R2 : Nat → Int32) (a6 : Option Value), S2 = bsS (rmF (h.1 39)) dt a S v → rwOk R2 S2.1 → R_ ia_k_X6_reachFrom Z (120, [some (.ref 29), some (.int g0), some (.int f0), some (.int (nI n)), some (.int (nI a)), some (.int (nI (wsm st sr a + wcn st sr a w))), a6], [], hB h R2 S2.2.1 S2.2.2 S2.1.length) := by
      intro S2 R2 a6 hS2 hR2
      refine ia_walk (fun pc => Nat.beq pc 45) 50 (fun X hX => ?_)
      conv => whnf
      rw [nI_1, Nat.add_assoc, ← et]
      exact hX _ (ih (v + 1) (by omega) (by omega) S2 (by rw [hS2, eS]) R2 a6 hR2)
    refine ia_walk (fun pc => Nat.beq pc 120) 80 (fun X hX => ?_)
    conv => whnf
    refine Exists.intro (a + 1) (And.intro (And.intro (nI_1 a) (by omega)) ?_)
    conv => whnf
    refine And.intro (fun c => ?_) (fun c => ?_)
    · conv => whnf
      refine Exists.intro _ (And.intro (And.intro rfl (by omega)) ?_)
      conv => whnf
      refine Exists.intro (v) (And.intro (And.intro (eY) (v2)) ?_)
      conv => whnf
      refine Exists.intro (dt v) (And.intro (And.intro (l1) (by omega)) ?_)
      conv => whnf
      refine And.intro (fun c1 => ?_) (fun c1 => ?_)
      · have hni : ¬ dt v ∈ S.1 := (bsOk_in okS hm (by omega)).mp c1
        conv => whnf
        refine Exists.intro _ (And.intro (And.intro rfl (by omega)) ?_)
        conv => whnf
        obtain ⟨x, ex, ev⟩ := ia_callN (f := Value.int) (v_hasRoom (hB h R S.2.1 S.2.2 S.1.length) v v2)
        rw [← eY] at ev
        refine Exists.intro (_, _) (And.intro ev ?_)
        have ex : x = bif rmF (h.1 39) v then 1 else 0 := ex
        conv => whnf
        refine And.intro (fun c2 => ?_) (fun c2 => ?_)
        · conv => whnf
          refine hX _ (next S R _ ?_ hR)
          unfold bsS
          rw [if_pos (Or.inr ?_)]
          cases hq : rmF (h.1 39) v
          · rfl
          · rw [hq] at ex; rw [ex] at c2; exact absurd c2 (by decide)
        · have hrm : rmF (h.1 39) v = true := by
            cases hq : rmF (h.1 39) v
            · rw [hq] at ex; exact absurd ex c2
            · rfl
          have hcl : S.1.length < 41 := by
            have := bsOk_len (bsOk_put (w := nI v) okS aS hni l2)
            simp only [List.length_append, List.length_cons, List.length_nil] at this
            omega
          conv => whnf
          refine Exists.intro _ (And.intro (And.intro rfl (by omega)) ?_)
          conv => whnf
          refine Exists.intro _ (And.intro (And.intro rfl (by omega)) ?_)
          conv => whnf
          have hk := ia_callE (v_mark h R S.2.1 S.2.2 S.1.length (dt v) (S.2.1 a + 1) (nI v) hcl (by omega))
          rw [← l1, ← eY] at hk
          refine Exists.intro (_, _) (And.intro hk ?_)
          conv => whnf
          have e3 : bsS (rmF (h.1 39)) dt a S v = (S.1 ++ [dt v], upd S.2.1 (dt v) (S.2.1 a + 1), upd S.2.2 (dt v) (nI v)) := by
            unfold bsS
            rw [if_neg (fun q => q.elim hni (fun z => by rw [hrm] at z; cases z))]
          have nx := fun a6 => next _ (upd R S.1.length (nI (dt v))) a6 e3.symm (rwOk_put hR (dt v))
          simp only [List.length_append, List.length_cons, List.length_nil] at nx
          rw [l1, eY]
          exact hX _ (nx _)
      · conv => whnf
        refine hX _ (next S R _ ?_ hR)
        unfold bsS
        rw [if_pos (Or.inl (Classical.not_not.mp (fun q => c1 ((bsOk_in okS hm (by omega)).mpr q))))]
    · exact absurd (show nI (wsm st sr a + wcn st sr a w) < h.1 32 (a + 1) by rw [hw.2.1 _ (by omega), ea1]; exact nI_lt (by omega) (by omega)) c
theorem bsW_len {st : Nat → Bool} {sr dt : Nat → Nat} {rm : Nat → Bool} {a : Nat} {S : bsT} : ∀ w, S.1.length ≤ (bsW st sr dt rm a S w).1.length
  | 0 => Nat.le_refl _
  | w + 1 => by
    have ih := bsW_len (st := st) (sr := sr) (dt := dt) (rm := rm) (a := a) (S := S) w
    rw [bsW]
    by_cases hc : st w = true ∧ sr w = a
    · rw [if_pos hc]
      unfold bsS
      by_cases hq : dt w ∈ (bsW st sr dt rm a S w).1 ∨ rm w = false
      · rw [if_pos hq]; exact ih
      · rw [if_neg hq]
        simp only [List.length_append, List.length_cons, List.length_nil]
        omega
    · rw [if_neg hc]; exact ih
theorem l_reach2 (h : ia_H) (st : Nat → Bool) (sr dt : Nat → Nat) (m : Nat) (hm : m ≤ 41) (hw : wbOk h st sr dt m) (g0 f0 : Int32) {Z : Option Value → ia_H → Prop} : ∀ (k i : Nat) (S : bsT), 41 < i + k → i ≤ S.1.length → bsOk m S → (∀ R, rwOk R (bsR st sr dt (rmF (h.1 39)) k i S).1 → Z none (hB h R (bsR st sr dt (rmF (h.1 39)) k i S).2.1 (bsR st sr dt (rmF (h.1 39)) k i S).2.2 (bsR st sr dt (rmF (h.1 39)) k i S).1.length)) → ∀ (R : Nat → Int32) (a4 a5 a6 : Option Value), rwOk R S.1 → R_ ia_k_X6_reachFrom Z (14, [some (.ref 29), some (.int g0), some (.int f0), some (.int (nI i)), a4, a5, a6], [], hB h R S.2.1 S.2.2 S.1.length) := by
  intro k
  induction k with
  | zero =>
    intro i S hk hi hok
    have := bsOk_len hok
    omega
  | succ k ih =>
    intro i S hk hi hok hZ R a4 a5 a6 hR
    have lenS := bsOk_len hok
    have e7 : upd (h.1 29) 7 (nI S.1.length) 7 = nI S.1.length := by simp [upd]
    by_cases hlt : i < S.1.length
    · have ha : S.1[i] ∈ S.1 := List.getElem_mem hlt
      have ham := (hok.2.1 _ ha).1
      rw [bsR, dif_pos hlt] at hZ
      generalize hae : S.1[i] = a at ha ham hZ
      have eR : R i = nI a := by rw [hR i hlt, hae]
      obtain ⟨ok2, -⟩ := bsW_ok (st := st) (sr := sr) (rm := rmF (h.1 39)) (fun w hw' hs => (hw.1 w hw' hs).2.1) hok ha 240 (Nat.le_refl _)
      refine ia_walk (fun pc => Nat.beq pc 45) 80 (fun X hX => ?_)
      conv => whnf
      refine And.intro (fun c => ?_) (fun c => ?_)
      · conv => whnf
        refine And.intro (fun c1 => ?_) (fun c1 => ?_)
        · conv => whnf
          refine Exists.intro _ (And.intro (And.intro rfl (by omega)) ?_)
          conv => whnf
          refine Exists.intro (a) (And.intro (And.intro (eR) (by omega)) ?_)
          conv => whnf
          have eb : h.1 32 a = nI (wsm st sr a + wcn st sr a 0) := hw.2.1 a (by omega)
          have l1 := l_reach1 h st sr dt m hm hw g0 f0 i a ham S hok ha (Z := Z) (fun R2 b5 b6 hR2 => by
            refine ia_walk (fun pc => Nat.beq pc 14) 50 (fun X hX => ?_)
            conv => whnf
            rw [nI_1]
            exact hX _ (ih (i + 1) _ (by omega) (Nat.le_trans (by omega) (bsW_len 240)) ok2 hZ R2 _ _ _ hR2)) (wcn st sr a 240) 0 (by omega) (Nat.zero_add _) S rfl R a6 hR
          rw [← eb, ← eR] at l1
          exact hX _ l1
        · exact absurd ((nI_lt41 (by omega)).mpr (by omega)) c1
      · exact absurd (show nI i < upd (h.1 29) 7 (nI S.1.length) 7 by rw [e7]; exact nI_lt hlt (by omega)) c
    · rw [bsR, dif_neg hlt] at hZ
      refine ia_walk (fun pc => Nat.beq pc 14) 80 (fun X hX => ?_)
      conv => whnf
      refine And.intro (fun c => ?_) (fun c => ?_)
      · exact absurd (show nI i < upd (h.1 29) 7 (nI S.1.length) 7 from c) (by rw [e7]; exact nI_nlt (by omega) (by omega))
      · conv => whnf
        exact hZ R hR
/-- the root is put in first -/
def bsP (g : Nat) (S : bsT) : bsT := (S.1 ++ [g], upd S.2.1 g 0, upd S.2.2 g (-1))
theorem bsP_ok {m g : Nat} {S : bsT} (h : bsOk m S) (hg : g < m) (hn : ¬ g ∈ S.1) : bsOk m (bsP g S) := by
  refine ⟨?_, fun k hk => ?_, fun k hk hn2 => ?_⟩
  · show (S.1 ++ [g]).Nodup
    rw [List.nodup_append]
    refine ⟨h.1, by simp, fun x hx y hy => ?_⟩
    rw [List.mem_singleton] at hy
    subst hy
    exact fun q => hn (q ▸ hx)
  · show k < m ∧ ∃ j, j < (S.1 ++ [g]).length ∧ upd S.2.1 g 0 k = nI j
    simp only [List.length_append, List.length_cons, List.length_nil]
    rcases List.mem_append.mp hk with q | q
    · obtain ⟨g1, j, k1, k2⟩ := h.2.1 k q
      refine ⟨g1, j, by omega, ?_⟩
      rw [← k2]
      exact if_neg (show ¬ k = g from fun z => hn (z ▸ q))
    · rw [List.mem_singleton] at q
      subst q
      exact ⟨hg, 0, by omega, if_pos rfl⟩
  · have h1 : ¬ k ∈ S.1 := fun q => hn2 (List.mem_append_left _ q)
    have h2 : ¬ k = g := fun q => hn2 (List.mem_append_right _ (by rw [q]; exact List.mem_singleton.mpr rfl))
    show upd S.2.1 g 0 k = -1
    rw [show upd S.2.1 g 0 k = S.2.1 k from if_neg h2]
    exact h.2.2 k hk h1
/-- all that is reached from g, behind what is reached already -/
def bsF (st : Nat → Bool) (sr dt : Nat → Nat) (rm : Nat → Bool) (g : Nat) (S : bsT) : bsT := bsR st sr dt rm 42 S.1.length (bsP g S)
theorem v_reachFrom (h : ia_H) (st : Nat → Bool) (sr dt : Nat → Nat) (m : Nat) (hm : m ≤ 41) (hw : wbOk h st sr dt m) (g : Nat) (hg : g < m) (S : bsT) (hok : bsOk m S) (hn : ¬ g ∈ S.1) (R : Nat → Int32) (hR : rwOk R S.1) : V_ 46 [.ref 29, .int (nI g)] (hB h R S.2.1 S.2.2 S.1.length) (fun r h' => r = none ∧ ∃ R2, rwOk R2 (bsF st sr dt (rmF (h.1 39)) g S).1 ∧ h' = hB h R2 (bsF st sr dt (rmF (h.1 39)) g S).2.1 (bsF st sr dt (rmF (h.1 39)) g S).2.2 (bsF st sr dt (rmF (h.1 39)) g S).1.length) := by
  have okP := bsP_ok hok hg hn
  have lenP := bsOk_len okP
  have lP : (bsP g S).1.length = S.1.length + 1 := by simp [bsP]
  have e7 : (hB h R S.2.1 S.2.2 S.1.length).1 29 7 = nI S.1.length := by
    show upd (h.1 29) 7 (nI S.1.length) 7 = nI S.1.length
    simp [upd]
  refine ia_V_in ia_k_X6_reachFrom [some (.ref 29), some (.int (nI g)), none, none, none, none, none] rfl rfl (Nat.le_of_ble_eq_true rfl) rfl ?_
  refine ia_walk (fun pc => Nat.beq pc 14) 50 (fun X hX => ?_)
  conv => whnf
  refine Exists.intro (_, _) (And.intro (ia_callE (v_mark h R S.2.1 S.2.2 S.1.length g 0 (-1) (by omega) (by omega))) ?_)
  conv => whnf
  have l2 := l_reach2 h st sr dt m hm hw (nI g) (nI S.1.length) (Z := fun r h' => r = none ∧ ∃ R2, rwOk R2 (bsF st sr dt (rmF (h.1 39)) g S).1 ∧ h' = hB h R2 (bsF st sr dt (rmF (h.1 39)) g S).2.1 (bsF st sr dt (rmF (h.1 39)) g S).2.2 (bsF st sr dt (rmF (h.1 39)) g S).1.length) 42 S.1.length (bsP g S) (by omega) (by omega) okP (fun R2 h2 => ⟨rfl, R2, h2, rfl⟩) (upd R S.1.length (nI g)) none none none (rwOk_put hR g)
  rw [lP] at l2
  rw [e7]
  exact hX _ l2
end
section
/-! The reference's laysFar: the same order as the class's reachFrom -/
def cst (sd : Nat → Bool) (w : Nat) : Bool := sd (w / 2)
def csr (A B : Nat → Nat) (w : Nat) : Nat := if w % 2 = 0 then A (w / 2) else B (w / 2)
def cdt (A B : Nat → Nat) (w : Nat) : Nat := if w % 2 = 0 then B (w / 2) else A (w / 2)
theorem c_even (sd : Nat → Bool) (A B : Nat → Nat) (s : Nat) : cst sd (2 * s) = sd s ∧ csr A B (2 * s) = A s ∧ cdt A B (2 * s) = B s := by
  unfold cst csr cdt
  rw [show 2 * s / 2 = s by omega, if_pos (show 2 * s % 2 = 0 by omega), if_pos (show 2 * s % 2 = 0 by omega)]
  exact ⟨rfl, rfl, rfl⟩
theorem c_odd (sd : Nat → Bool) (A B : Nat → Nat) (s : Nat) : cst sd (2 * s + 1) = sd s ∧ csr A B (2 * s + 1) = B s ∧ cdt A B (2 * s + 1) = A s := by
  unfold cst csr cdt
  rw [show (2 * s + 1) / 2 = s by omega, if_neg (show ¬ (2 * s + 1) % 2 = 0 by omega), if_neg (show ¬ (2 * s + 1) % 2 = 0 by omega)]
  exact ⟨rfl, rfl, rfl⟩
/-- a statement's two ways -/
theorem bsW_2 {sd : Nat → Bool} {A B : Nat → Nat} {rm : Nat → Bool} {a s : Nat} {S : bsT} (hab : A s ≠ B s) : bsW (cst sd) (csr A B) (cdt A B) rm a S (2 * (s + 1)) = if sd s = true then (if A s = a then bsS rm (cdt A B) a (bsW (cst sd) (csr A B) (cdt A B) rm a S (2 * s)) (2 * s) else if B s = a then bsS rm (cdt A B) a (bsW (cst sd) (csr A B) (cdt A B) rm a S (2 * s)) (2 * s + 1) else bsW (cst sd) (csr A B) (cdt A B) rm a S (2 * s)) else bsW (cst sd) (csr A B) (cdt A B) rm a S (2 * s) := by
  obtain ⟨e1, e2, e3⟩ := c_even sd A B s
  obtain ⟨o1, o2, o3⟩ := c_odd sd A B s
  rw [show 2 * (s + 1) = 2 * s + 1 + 1 by omega, bsW, bsW, e1, e2, o1, o2]
  by_cases hs : sd s = true
  · rw [if_pos hs]
    by_cases hA : A s = a
    · rw [if_pos hA, if_neg (show ¬ (sd s = true ∧ B s = a) from fun q => hab (hA.trans q.2.symm)), if_pos (show sd s = true ∧ A s = a from ⟨hs, hA⟩)]
    · rw [if_neg hA, if_neg (show ¬ (sd s = true ∧ A s = a) from fun q => hA q.2)]
      by_cases hB : B s = a
      · rw [if_pos hB, if_pos (show sd s = true ∧ B s = a from ⟨hs, hB⟩)]
      · rw [if_neg hB, if_neg (show ¬ (sd s = true ∧ B s = a) from fun q => hB q.2)]
  · rw [if_neg hs, if_neg (show ¬ (sd s = true ∧ B s = a) from fun q => hs q.1), if_neg (show ¬ (sd s = true ∧ A s = a) from fun q => hs q.1)]
theorem bsW_end {sd : Nat → Bool} {A B : Nat → Nat} {rm : Nat → Bool} {a n : Nat} {S : bsT} (hn : n ≤ 120) (hsd : ∀ s, n ≤ s → sd s = false) : bsW (cst sd) (csr A B) (cdt A B) rm a S 240 = bsW (cst sd) (csr A B) (cdt A B) rm a S (2 * n) := by
  refine (bsW_skip (w := 2 * n) (v := 240) (by omega) (fun u h1 h2 hc => ?_)).1
  have : sd (u / 2) = true := hc.1
  rw [hsd (u / 2) (by omega)] at this
  cases this
/-- the reference's statements -/
def mdOk (h : ia_H) (n G : Nat) (sd : Nat → Bool) (A B : Nat → Nat) : Prop := n ≤ 120 ∧ G ≤ 41 ∧ h.1 52 10 = nI n ∧ h.1 52 4 = nI G ∧ (∀ s, s < n → h.1 56 s = nI (A s) ∧ A s < G ∧ h.1 57 s = nI (B s) ∧ B s < G ∧ A s ≠ B s ∧ sd s = !decide ((1 : Int32) < h.1 62 s)) ∧ ∀ s, n ≤ s → sd s = false
theorem m_isStanding (h : ia_H) (s : Nat) (hs : s < 132) : V_ 119 [.ref 52, .int (nI s)] h (Z_ (.int (bif !decide ((1 : Int32) < h.1 62 s) then 1 else 0)) h) := by
  refine ia_V_in ia_k_X8_isStanding [some (.ref 52), some (.int (nI s))] rfl rfl (Nat.le_of_ble_eq_true rfl) rfl ?_
  refine ia_walk (fun _ => false) 50 (fun X hX => ?_)
  conv => whnf
  refine Exists.intro _ (And.intro (And.intro rfl (hs)) ?_)
  conv => whnf
  refine And.intro (fun c => ?_) (fun c => ?_)
  · conv => whnf
    exact ⟨Or.inl rfl, by rw [decide_eq_true c]; rfl, rfl⟩
  · conv => whnf
    exact ⟨Or.inr rfl, by rw [decide_eq_false c]; rfl, rfl⟩
/-- the heap with queue and far put in -/
def hF (h : ia_H) (Q F : Nat → Int32) : ia_H := hsI (hsI h 67 Q) 69 F
theorem hF_67 (h : ia_H) (Q F Q2 : Nat → Int32) : hsI (hF h Q F) 67 Q2 = hF h Q2 F := by
  unfold hF
  rw [hsI_comm _ (by decide : (69 : Nat) ≠ 67), hsI_same]
theorem hF_69 (h : ia_H) (Q F F2 : Nat → Int32) : hsI (hF h Q F) 69 F2 = hF h Q F2 := hsI_same _ _ _ _
/-- far holds the steps of the gauges below G -/
def frOk (G : Nat) (F d : Nat → Int32) : Prop := ∀ g, g < G → F g = d g
theorem frOk_put {G : Nat} {F d : Nat → Int32} (h : frOk G F d) (t : Nat) (x : Int32) : frOk G (upd F t x) (upd d t x) := fun g hg => by
  simp only [upd]
  by_cases e : g = t
  · rw [if_pos e, if_pos e]
  · rw [if_neg e, if_neg e]; exact h g hg
abbrev tt : Nat → Bool := fun _ => true
theorem l_far1 (h : ia_H) (n G : Nat) (sd : Nat → Bool) (A B : Nat → Nat) (hd : mdOk h n G sd A B) (e0 : Int32) (i a : Nat) (S0 : bsT) (h0 : bsOk G S0) (hi : i < S0.1.length) (ha : S0.1[i] = a) {Z : Option Value → ia_H → Prop}
    (hN : ∀ (Q F : Nat → Int32) (a4 a5 : Option Value), rwOk Q (bsW (cst sd) (csr A B) (cdt A B) tt a S0 240).1 → frOk G F (bsW (cst sd) (csr A B) (cdt A B) tt a S0 240).2.1 → R_ ia_k_X8_laysFar Z (188, [some (.ref 52), some (.int e0), some (.int (nI (bsW (cst sd) (csr A B) (cdt A B) tt a S0 240).1.length)), some (.int (nI i)), a4, a5], [], hF h Q F)) :
    ∀ (k s : Nat), s + k = n → ∀ (S : bsT), S = bsW (cst sd) (csr A B) (cdt A B) tt a S0 (2 * s) → ∀ (Q F : Nat → Int32) (a5 : Option Value), rwOk Q S.1 → frOk G F S.2.1 → R_ ia_k_X8_laysFar Z (49, [some (.ref 52), some (.int e0), some (.int (nI S.1.length)), some (.int (nI i)), some (.int (nI s)), a5], [], hF h Q F) := by
  obtain ⟨hn, hG, eN, eG, hS, hsd⟩ := hd
  have haS : a ∈ S0.1 := by rw [← ha]; exact List.getElem_mem hi
  have haG := (h0.2.1 a haS).1
  have hdt : ∀ w, w < 240 → cst sd w = true → cdt A B w < G := by
    intro w hw hs
    have h1 : w / 2 < n := by
      rcases Nat.lt_or_ge (w / 2) n with q | q
      · exact q
      · have : sd (w / 2) = true := hs
        rw [hsd _ q] at this; cases this
    obtain ⟨-, q2, -, q4, -⟩ := hS _ h1
    unfold cdt
    split
    · exact q4
    · exact q2
  intro k
  induction k with
  | zero =>
    intro s hs S eS Q F a5 hQ hF0
    have es : s = n := by omega
    subst es
    rw [← bsW_end hn hsd] at eS
    refine ia_walk (fun pc => Nat.beq pc 188) 50 (fun X hX => ?_)
    conv => whnf
    refine And.intro (fun c => ?_) (fun c => ?_)
    · exact absurd (show nI s < h.1 52 10 from c) (by rw [eN]; exact nI_nlt (Nat.le_refl _) (by omega))
    · conv => whnf
      rw [eS] at hQ hF0 ⊢
      exact hX _ (hN Q F _ _ hQ hF0)
  | succ k ih =>
    intro s hs S eS Q F a5 hQ hF0
    have hlt : s < n := by omega
    obtain ⟨s1, s2, s3, s4, s5, s6⟩ := hS s hlt
    obtain ⟨okS, aS⟩ := bsW_ok (st := cst sd) (sr := csr A B) (rm := tt) hdt h0 haS (2 * s) (by omega)
    rw [← eS] at okS aS
    have lenS := bsOk_len okS
    have hlS : S0.1.length ≤ S.1.length := by rw [eS]; exact bsW_len _
    -- the i-th of the row is a still
    have pre : ∀ w, ∃ l, (bsW (cst sd) (csr A B) (cdt A B) tt a S0 w).1 = S0.1 ++ l := by
      intro w
      induction w with
      | zero => exact ⟨[], by simp [bsW]⟩
      | succ w ihw =>
        obtain ⟨l, el⟩ := ihw
        rw [bsW]
        by_cases hc : cst sd w = true ∧ csr A B w = a
        · rw [if_pos hc]
          unfold bsS
          by_cases hq : cdt A B w ∈ (bsW (cst sd) (csr A B) (cdt A B) tt a S0 w).1 ∨ tt w = false
          · rw [if_pos hq]; exact ⟨l, el⟩
          · rw [if_neg hq]
            exact ⟨l ++ [cdt A B w], by show (bsW (cst sd) (csr A B) (cdt A B) tt a S0 w).1 ++ _ = _; rw [el, List.append_assoc]⟩
        · rw [if_neg hc]; exact ⟨l, el⟩
    have eQ : Q i = nI a := by
      obtain ⟨l, el⟩ := pre (2 * s)
      rw [hQ i (by omega)]
      have e1 : S.1[i]'(by omega) = a := by
        have : S.1[i]? = some a := by
          rw [eS, el, List.getElem?_append_left hi, List.getElem?_eq_getElem hi, ha]
        obtain ⟨_, q⟩ := List.getElem?_eq_some_iff.mp this
        exact q
      rw [e1]
    have b2 := bsW_2 (rm := tt) (a := a) (S := S0) (sd := sd) s5
    rw [← eS] at b2
    obtain ⟨ev1, ev2, ev3⟩ := c_even sd A B s
    obtain ⟨od1, od2, od3⟩ := c_odd sd A B s
    have next : ∀ (S2 : bsT) (Q2 F2 : Nat → Int32) (a5 : Option Value), S2 = bsW (cst sd) (csr A B) (cdt A B) tt a S0 (2 * (s + 1)) → rwOk Q2 S2.1 → frOk G F2 S2.2.1 → R_ ia_k_X8_laysFar Z (182, [some (.ref 52), some (.int e0), some (.int (nI S2.1.length)), some (.int (nI i)), some (.int (nI s)), a5], [], hF h Q2 F2) := by
      intro S2 Q2 F2 a5 h2 hQ2 hF2
      refine ia_walk (fun pc => Nat.beq pc 49) 50 (fun X hX => ?_)
      conv => whnf
      rw [nI_1]
      exact hX _ (ih (s + 1) (by omega) S2 h2 Q2 F2 a5 hQ2 hF2)
    -- the gauge at the other end, t
    have go : ∀ (t w : Nat), t < G → cdt A B w = t → bsW (cst sd) (csr A B) (cdt A B) tt a S0 (2 * (s + 1)) = bsS tt (cdt A B) a S w → R_ ia_k_X8_laysFar Z (135, [some (.ref 52), some (.int e0), some (.int (nI S.1.length)), some (.int (nI i)), some (.int (nI s)), a5], [.int (nI t)], hF h Q F) := by
      intro t w ht hw eW
      have eF : F t = S.2.1 t := hF0 t ht
      have eFa : F a = S.2.1 a := hF0 a haG
      refine ia_walk (fun pc => Nat.beq pc 182) 60 (fun X hX => ?_)
      conv => whnf
      refine Exists.intro _ (And.intro (And.intro rfl (by omega)) ?_)
      conv => whnf
      refine And.intro (fun c1 => ?_) (fun c1 => ?_)
      · have hni : ¬ t ∈ S.1 := (bsOk_in okS hG (by omega)).mp (eF.symm.trans c1)
        have hcl : S.1.length < 41 := by
          have := bsOk_len (bsOk_put (w := nI w) okS aS hni ht)
          simp only [List.length_append, List.length_cons, List.length_nil] at this
          omega
        conv => whnf
        refine Exists.intro _ (And.intro (And.intro rfl (by omega)) ?_)
        conv => whnf
        refine Exists.intro (a) (And.intro (And.intro (eQ) (by omega)) ?_)
        conv => whnf
        refine Exists.intro _ (And.intro (And.intro rfl (by omega)) ?_)
        conv => whnf
        refine Exists.intro _ (And.intro (And.intro rfl (by omega)) ?_)
        conv => whnf
        rw [nI_1]
        have e3 : bsS tt (cdt A B) a S w = (S.1 ++ [t], upd S.2.1 t (S.2.1 a + 1), upd S.2.2 t (nI w)) := by
          unfold bsS
          rw [hw, if_neg (fun q => q.elim hni (fun z => by cases z))]
        have hX2 := next (S.1 ++ [t], upd S.2.1 t (S.2.1 a + 1), upd S.2.2 t (nI w)) (upd Q S.1.length (nI t)) (upd F t (F a + 1)) (some (.int (nI t))) (by rw [eW, e3]) (rwOk_put hQ t) (by rw [eFa]; exact frOk_put hF0 t _)
        simp only [List.length_append, List.length_cons, List.length_nil] at hX2
        have e5 : hsI (hsI (hF h Q F) 69 (upd F t (F a + 1))) 67 (upd Q S.1.length (nI t)) = hF h (upd Q S.1.length (nI t)) (upd F t (F a + 1)) := by rw [hF_69, hF_67]
        exact hX _ (e5 ▸ hX2 : ia_Run _ _ _ _ (182, _, _, hsI (hsI (hF h Q F) 69 (upd F t (F a + 1))) 67 (upd Q S.1.length (nI t))))
      · have hin : t ∈ S.1 := Classical.not_not.mp (fun q => c1 (eF.trans ((bsOk_in okS hG (by omega)).mpr q)))
        conv => whnf
        refine hX _ (next S Q F _ ?_ hQ hF0)
        rw [eW]
        unfold bsS
        rw [hw, if_pos (Or.inl hin)]
    refine ia_walk (fun pc => Nat.beq pc 135 || Nat.beq pc 182) 80 (fun X hX => ?_)
    conv => whnf
    refine And.intro (fun c => ?_) (fun c => ?_)
    · conv => whnf
      obtain ⟨x, ex, ev⟩ := ia_callN (f := Value.int) (m_isStanding (hF h Q F) s (by omega))
      refine Exists.intro (_, _) (And.intro ev ?_)
      have ex : x = bif sd s then 1 else 0 := by rw [ex, s6]; rfl
      conv => whnf
      refine And.intro (fun c1 => ?_) (fun c1 => ?_)
      · have hsf : sd s = false := by
          cases hq : sd s
          · rfl
          · rw [hq] at ex; rw [ex] at c1; exact absurd c1 (by decide)
        rw [hsf, if_neg (by decide)] at b2
        conv => whnf
        exact hX _ (next S Q F _ b2.symm hQ hF0)
      · have hst : sd s = true := by
          cases hq : sd s
          · rw [hq] at ex; exact absurd ex c1
          · rfl
        rw [if_pos hst] at b2
        conv => whnf
        refine Exists.intro _ (And.intro (And.intro rfl (by omega)) ?_)
        conv => whnf
        refine Exists.intro _ (And.intro (And.intro rfl (by omega)) ?_)
        conv => whnf
        refine And.intro (fun c2 => ?_) (fun c2 => ?_)
        · have hA : A s = a := nI_inj (by omega) (by omega) (s1.symm.trans ((show h.1 56 s = Q i from c2).trans eQ))
          rw [if_pos hA] at b2
          conv => whnf
          refine Exists.intro _ (And.intro (And.intro rfl (by omega)) ?_)
          conv => whnf
          refine Exists.intro _ (And.intro (And.intro rfl (by omega)) ?_)
          conv => whnf
          refine And.intro (fun c3 => ?_) (fun c3 => ?_)
          · conv => whnf
            refine Exists.intro _ (And.intro (And.intro rfl (by omega)) ?_)
            conv => whnf
            have g := go (B s) (2 * s) s4 ev3 b2
            rw [← s3] at g
            exact hX _ g
          · exact absurd c2 c3
        · have hA : ¬ A s = a := fun q => c2 (show h.1 56 s = Q i by rw [s1, eQ, q])
          rw [if_neg hA] at b2
          conv => whnf
          refine Exists.intro _ (And.intro (And.intro rfl (by omega)) ?_)
          conv => whnf
          refine Exists.intro _ (And.intro (And.intro rfl (by omega)) ?_)
          conv => whnf
          refine And.intro (fun c3 => ?_) (fun c3 => ?_)
          · have hB : B s = a := nI_inj (by omega) (by omega) (s3.symm.trans ((show h.1 57 s = Q i from c3).trans eQ))
            rw [if_pos hB] at b2
            conv => whnf
            refine Exists.intro _ (And.intro (And.intro rfl (by omega)) ?_)
            conv => whnf
            refine Exists.intro _ (And.intro (And.intro rfl (by omega)) ?_)
            conv => whnf
            refine And.intro (fun c4 => ?_) (fun c4 => ?_)
            · exact absurd c4 c2
            · conv => whnf
              refine Exists.intro _ (And.intro (And.intro rfl (by omega)) ?_)
              conv => whnf
              have g := go (A s) (2 * s + 1) s2 od3 b2
              rw [← s1] at g
              exact hX _ g
          · have hB : ¬ B s = a := fun q => c3 (show h.1 57 s = Q i by rw [s3, eQ, q])
            rw [if_neg hB] at b2
            conv => whnf
            exact hX _ (next S Q F _ b2.symm hQ hF0)
    · exact absurd (show nI s < h.1 52 10 by rw [eN]; exact nI_lt hlt (by omega)) c
theorem l_far2 (h : ia_H) (n G : Nat) (sd : Nat → Bool) (A B : Nat → Nat) (hd : mdOk h n G sd A B) (e0 : Int32) {Z : Option Value → ia_H → Prop} : ∀ (k i : Nat) (S : bsT), 41 < i + k → i ≤ S.1.length → bsOk G S → (∀ Q F, rwOk Q (bsR (cst sd) (csr A B) (cdt A B) tt k i S).1 → frOk G F (bsR (cst sd) (csr A B) (cdt A B) tt k i S).2.1 → Z none (hF h Q F)) → ∀ (Q F : Nat → Int32) (a4 a5 : Option Value), rwOk Q S.1 → frOk G F S.2.1 → R_ ia_k_X8_laysFar Z (41, [some (.ref 52), some (.int e0), some (.int (nI S.1.length)), some (.int (nI i)), a4, a5], [], hF h Q F) := by
  have hd0 := hd
  obtain ⟨hn, hG, eN, eG, hS, hsd⟩ := hd
  have hdt : ∀ w, w < 240 → cst sd w = true → cdt A B w < G := by
    intro w hw hs
    have h1 : w / 2 < n := by
      rcases Nat.lt_or_ge (w / 2) n with q | q
      · exact q
      · have : sd (w / 2) = true := hs
        rw [hsd _ q] at this; cases this
    obtain ⟨-, q2, -, q4, -⟩ := hS _ h1
    unfold cdt
    split
    · exact q4
    · exact q2
  intro k
  induction k with
  | zero =>
    intro i S hk hi hok
    have := bsOk_len hok
    omega
  | succ k ih =>
    intro i S hk hi hok hZ Q F a4 a5 hQ hF0
    have lenS := bsOk_len hok
    by_cases hlt : i < S.1.length
    · have ha : S.1[i] ∈ S.1 := List.getElem_mem hlt
      rw [bsR, dif_pos hlt] at hZ
      obtain ⟨a, hae⟩ : ∃ a, S.1[i] = a := ⟨_, rfl⟩
      rw [hae] at ha hZ
      obtain ⟨ok2, -⟩ := bsW_ok (st := cst sd) (sr := csr A B) (rm := tt) hdt hok ha 240 (Nat.le_refl _)
      refine ia_walk (fun pc => Nat.beq pc 49) 80 (fun X hX => ?_)
      conv => whnf
      refine And.intro (fun c => ?_) (fun c => ?_)
      · have l1 := l_far1 h n G sd A B hd0 e0 i a S hok hlt hae (Z := Z) (fun Q2 F2 b4 b5 hQ2 hF2 => by
          refine ia_walk (fun pc => Nat.beq pc 41) 50 (fun X hX => ?_)
          conv => whnf
          rw [nI_1]
          exact hX _ (ih (i + 1) _ (by omega) (Nat.le_trans (by omega) (bsW_len 240)) ok2 hZ Q2 F2 _ _ hQ2 hF2)) n 0 (by omega) S rfl Q F a5 hQ hF0
        conv => whnf
        exact hX _ (l1)
      · exact absurd (nI_lt hlt (by omega)) c
    · rw [bsR, dif_neg hlt] at hZ
      refine ia_walk (fun pc => Nat.beq pc 41) 80 (fun X hX => ?_)
      conv => whnf
      refine And.intro (fun c => ?_) (fun c => ?_)
      · exact absurd c (nI_nlt (by omega) (by omega))
      · conv => whnf
        exact hZ Q F hQ hF0
theorem l_far0 (h : ia_H) (G : Nat) (hG : G ≤ 41) (eG : h.1 52 4 = nI G) (e : Int32) {Z : Option Value → ia_H → Prop} (hN : ∀ w : Option Value, R_ ia_k_X8_laysFar Z (23, [some (.ref 52), some (.int e), w, none, none, none], [], hsI h 69 (flF (h.1 69) G (-1)))) : ∀ k g : Nat, g + k = G → R_ ia_k_X8_laysFar Z (2, [some (.ref 52), some (.int e), some (.int (nI g)), none, none, none], [], hsI h 69 (flF (h.1 69) g (-1))) := by
  intro k
  induction k with
  | zero =>
    intro g hg
    have eg : g = G := by omega
    subst eg
    refine ia_walk (fun pc => Nat.beq pc 23) 50 (fun X hX => ?_)
    conv => whnf
    refine And.intro (fun c => ?_) (fun c => ?_)
    · exact absurd (show nI g < h.1 52 4 from c) (by rw [eG]; exact nI_nlt (Nat.le_refl g) (by omega))
    · conv => whnf
      exact hX _ (hN _)
  | succ k ih =>
    intro g hg
    refine ia_walk (fun pc => Nat.beq pc 2) 50 (fun X hX => ?_)
    conv => whnf
    refine And.intro (fun c => ?_) (fun c => ?_)
    · conv => whnf
      refine Exists.intro _ (And.intro (And.intro rfl (by omega)) ?_)
      conv => whnf
      rw [nI_1]
      have e : hsI (hsI h 69 (flF (h.1 69) g (-1))) 69 (upd (flF (h.1 69) g (-1)) g (-1)) = hsI h 69 (flF (h.1 69) (g + 1) (-1)) := by rw [hsI_same, flF_s]
      exact hX _ (e ▸ ih (g + 1) (by omega) : ia_Run _ _ _ _ (2, _, _, hsI (hsI h 69 (flF (h.1 69) g (-1))) 69 (upd (flF (h.1 69) g (-1)) g (-1))))
    · exact absurd (show nI g < h.1 52 4 by rw [eG]; exact nI_lt (by omega) (by omega)) c
/-- nothing is reached yet -/
def bs0 : bsT := ([], fun _ => -1, fun _ => -1)
theorem bs0_ok (m : Nat) : bsOk m bs0 := ⟨List.nodup_nil, fun g hg => (List.not_mem_nil hg).elim, fun _ _ _ => rfl⟩
theorem v_laysFar (h : ia_H) (n G : Nat) (sd : Nat → Bool) (A B : Nat → Nat) (hd : mdOk h n G sd A B) (e : Nat) (he : e < G) : V_ 149 [.ref 52, .int (nI e)] h (fun r h' => r = none ∧ ∃ Q F, rwOk Q (bsF (cst sd) (csr A B) (cdt A B) tt e bs0).1 ∧ frOk G F (bsF (cst sd) (csr A B) (cdt A B) tt e bs0).2.1 ∧ h' = hF h Q F) := by
  have hd0 := hd
  obtain ⟨hn, hG, eN, eG, hS, hsd⟩ := hd
  refine ia_V_in ia_k_X8_laysFar [some (.ref 52), some (.int (nI e)), none, none, none, none] rfl rfl (Nat.le_of_ble_eq_true rfl) rfl ?_
  refine ia_walk (fun pc => Nat.beq pc 2) 50 (fun X hX => ?_)
  conv => whnf
  have l0 := l_far0 h G hG eG (nI e) (Z := fun r h' => r = none ∧ ∃ Q F, rwOk Q (bsF (cst sd) (csr A B) (cdt A B) tt e bs0).1 ∧ frOk G F (bsF (cst sd) (csr A B) (cdt A B) tt e bs0).2.1 ∧ h' = hF h Q F) (fun w => by
    refine ia_walk (fun pc => Nat.beq pc 41) 50 (fun X hX => ?_)
    conv => whnf
    refine Exists.intro _ (And.intro (And.intro rfl (by omega)) ?_)
    conv => whnf
    refine Exists.intro (0) (And.intro (And.intro (rfl) (by omega)) ?_)
    conv => whnf
    have l2 := l_far2 h n G sd A B hd0 (nI e) (Z := fun r h' => r = none ∧ ∃ Q F, rwOk Q (bsF (cst sd) (csr A B) (cdt A B) tt e bs0).1 ∧ frOk G F (bsF (cst sd) (csr A B) (cdt A B) tt e bs0).2.1 ∧ h' = hF h Q F) 42 0 (bsP e bs0) (by omega) (by omega) (bsP_ok (bs0_ok G) he (by simp [bs0])) (fun Q F h1 h2 => ⟨rfl, Q, F, h1, h2, rfl⟩) (upd (h.1 67) 0 (nI e)) (upd (flF (h.1 69) G (-1)) e 0) none none (rwOk_put (R := h.1 67) (q := []) (fun i hi => absurd hi (Nat.not_lt_zero i)) e) (frOk_put (F := flF (h.1 69) G (-1)) (d := fun _ => -1) (fun g hg => if_pos hg) e 0)
    have e5 : hsI (hsI (hsI h 69 (flF (h.1 69) G (-1))) 69 (upd (flF (h.1 69) G (-1)) e 0)) 67 (upd (h.1 67) 0 (nI e)) = hF h (upd (h.1 67) 0 (nI e)) (upd (flF (h.1 69) G (-1)) e 0) := by
      unfold hF
      rw [hsI_same, hsI_comm _ (by decide : (69 : Nat) ≠ 67)]
    exact hX _ (e5 ▸ l2 : ia_Run _ _ _ _ (41, _, _, hsI (hsI (hsI h 69 (flF (h.1 69) G (-1))) 69 (upd (flF (h.1 69) G (-1)) e 0)) 67 (upd (h.1 67) 0 (nI e))))) G 0 (by omega)
  rw [flF_0, hsI_eta] at l0
  exact hX _ l0
end
section
/-! What is reached: nothing is left out, and each has one by which it was reached -/
theorem bsS_pre (rm : Nat → Bool) (dt : Nat → Nat) (a : Nat) (S : bsT) (w : Nat) : ∃ l, (bsS rm dt a S w).1 = S.1 ++ l := by
  unfold bsS
  by_cases hq : dt w ∈ S.1 ∨ rm w = false
  · rw [if_pos hq]; exact ⟨[], by simp⟩
  · rw [if_neg hq]; exact ⟨[dt w], rfl⟩
theorem bsW_pre (st : Nat → Bool) (sr dt : Nat → Nat) (rm : Nat → Bool) (a : Nat) (S : bsT) : ∀ w, ∃ l, (bsW st sr dt rm a S w).1 = S.1 ++ l
  | 0 => ⟨[], by simp [bsW]⟩
  | w + 1 => by
    obtain ⟨l, el⟩ := bsW_pre st sr dt rm a S w
    rw [bsW]
    by_cases hc : st w = true ∧ sr w = a
    · rw [if_pos hc]
      obtain ⟨l2, e2⟩ := bsS_pre rm dt a (bsW st sr dt rm a S w) w
      exact ⟨l ++ l2, by rw [e2, el, List.append_assoc]⟩
    · rw [if_neg hc]; exact ⟨l, el⟩
theorem bsS_in {rm : Nat → Bool} {dt : Nat → Nat} {a : Nat} {S : bsT} {w : Nat} (hr : rm w = true) : dt w ∈ (bsS rm dt a S w).1 := by
  unfold bsS
  by_cases hq : dt w ∈ S.1 ∨ rm w = false
  · rw [if_pos hq]
    rcases hq with q | q
    · exact q
    · rw [hr] at q; cases q
  · rw [if_neg hq]
    exact List.mem_append_right _ (List.mem_singleton.mpr rfl)
theorem bsW_cl {st : Nat → Bool} {sr dt : Nat → Nat} {rm : Nat → Bool} {a : Nat} {S : bsT} : ∀ {w v : Nat}, v < w → st v = true → sr v = a → rm v = true → dt v ∈ (bsW st sr dt rm a S w).1
  | 0, v, hv, _, _, _ => absurd hv (Nat.not_lt_zero v)
  | w + 1, v, hv, h1, h2, h3 => by
    rw [bsW]
    by_cases hvw : v = w
    · subst hvw
      rw [if_pos ⟨h1, h2⟩]
      exact bsS_in h3
    · have ih := bsW_cl (st := st) (sr := sr) (dt := dt) (rm := rm) (a := a) (S := S) (w := w) (v := v) (by omega) h1 h2 h3
      by_cases hc : st w = true ∧ sr w = a
      · rw [if_pos hc]
        obtain ⟨l2, e2⟩ := bsS_pre rm dt a (bsW st sr dt rm a S w) w
        rw [e2]
        exact List.mem_append_left _ ih
      · rw [if_neg hc]; exact ih
/-- all ways from g lead to what is reached -/
def bsC (st : Nat → Bool) (sr dt : Nat → Nat) (rm : Nat → Bool) (q : List Nat) (g : Nat) : Prop := ∀ w, w < 240 → st w = true → sr w = g → rm w = true → dt w ∈ q
theorem bsR_pre (st : Nat → Bool) (sr dt : Nat → Nat) (rm : Nat → Bool) : ∀ (k i : Nat) (S : bsT), ∃ l, (bsR st sr dt rm k i S).1 = S.1 ++ l
  | 0, _, S => ⟨[], by simp [bsR]⟩
  | k + 1, i, S => by
    rw [bsR]
    by_cases hi : i < S.1.length
    · rw [dif_pos hi]
      obtain ⟨l1, e1⟩ := bsR_pre st sr dt rm k (i + 1) (bsW st sr dt rm S.1[i] S 240)
      obtain ⟨l2, e2⟩ := bsW_pre st sr dt rm S.1[i] S 240
      exact ⟨l2 ++ l1, by rw [e1, e2, List.append_assoc]⟩
    · rw [dif_neg hi]; exact ⟨[], by simp⟩
theorem bsR_ok {st : Nat → Bool} {sr dt : Nat → Nat} {rm : Nat → Bool} {m : Nat} (hd : ∀ w, w < 240 → st w = true → dt w < m) : ∀ (k i : Nat) (S : bsT), bsOk m S → bsOk m (bsR st sr dt rm k i S)
  | 0, _, S, h => h
  | k + 1, i, S, h => by
    rw [bsR]
    by_cases hi : i < S.1.length
    · rw [dif_pos hi]
      exact bsR_ok hd k (i + 1) _ (bsW_ok hd h (List.getElem_mem hi) 240 (Nat.le_refl _)).1
    · rw [dif_neg hi]; exact h
theorem bsR_cl {st : Nat → Bool} {sr dt : Nat → Nat} {rm : Nat → Bool} {m : Nat} (hm : m ≤ 41) (hd : ∀ w, w < 240 → st w = true → dt w < m) : ∀ (k i : Nat) (S : bsT), 41 < i + k → bsOk m S → (∀ g, g ∈ S.1.take i → bsC st sr dt rm S.1 g) → ∀ g, g ∈ (bsR st sr dt rm k i S).1 → bsC st sr dt rm (bsR st sr dt rm k i S).1 g
  | 0, i, S, hk, hok, hc => by
    intro g hg
    have hl := bsOk_len hok
    rw [List.take_of_length_le (by omega)] at hc
    exact hc g hg
  | k + 1, i, S, hk, hok, hc => by
    rw [bsR]
    by_cases hi : i < S.1.length
    · rw [dif_pos hi]
      have ha : S.1[i] ∈ S.1 := List.getElem_mem hi
      obtain ⟨ok2, -⟩ := bsW_ok (sr := sr) (rm := rm) hd hok ha 240 (Nat.le_refl _)
      obtain ⟨l, el⟩ := bsW_pre st sr dt rm S.1[i] S 240
      refine bsR_cl hm hd k (i + 1) _ (by omega) ok2 (fun g hg => ?_)
      rw [el, List.take_append_of_le_length (by omega), List.take_succ_eq_append_getElem hi] at hg
      rcases List.mem_append.mp hg with q | q
      · intro w w1 w2 w3 w4
        rw [el]
        exact List.mem_append_left _ (hc g q w w1 w2 w3 w4)
      · rw [List.mem_singleton] at q
        subst q
        intro w w1 w2 w3 w4
        exact bsW_cl w1 w2 w3 w4
    · rw [dif_neg hi]
      intro g hg
      rw [List.take_of_length_le (by omega)] at hc
      exact hc g hg
/-- each that is reached: a root, or by a way that stands, from one that is reached too -/
def bsB (st : Nat → Bool) (sr dt : Nat → Nat) (rm : Nat → Bool) (S : bsT) : Prop := ∀ g, g ∈ S.1 → (S.2.2 g = -1 ∧ S.2.1 g = 0) ∨ ∃ w, w < 240 ∧ st w = true ∧ rm w = true ∧ dt w = g ∧ S.2.2 g = nI w ∧ sr w ∈ S.1 ∧ S.2.1 g = S.2.1 (sr w) + 1
theorem bsB_put {st : Nat → Bool} {sr dt : Nat → Nat} {rm : Nat → Bool} {S : bsT} (h : bsB st sr dt rm S) {w : Nat} (hw : w < 240) (h1 : st w = true) (h2 : rm w = true) (ha : sr w ∈ S.1) (hn : ¬ dt w ∈ S.1) : bsB st sr dt rm (S.1 ++ [dt w], upd S.2.1 (dt w) (S.2.1 (sr w) + 1), upd S.2.2 (dt w) (nI w)) := by
  have keep : ∀ (f : Nat → Int32) (x : Int32) (k : Nat), k ∈ S.1 → upd f (dt w) x k = f k := fun f x k hk => if_neg (show ¬ k = dt w from fun z => hn (z ▸ hk))
  intro g hg
  rcases List.mem_append.mp hg with q | q
  · rcases h g q with ⟨e1, e2⟩ | ⟨v, v1, v2, v3, v4, v5, v6, v7⟩
    · refine Or.inl ⟨?_, ?_⟩
      · show upd S.2.2 (dt w) (nI w) g = -1
        rw [keep _ _ _ q]; exact e1
      · show upd S.2.1 (dt w) (S.2.1 (sr w) + 1) g = 0
        rw [keep _ _ _ q]; exact e2
    · refine Or.inr ⟨v, v1, v2, v3, v4, ?_, List.mem_append_left _ v6, ?_⟩
      · show upd S.2.2 (dt w) (nI w) g = nI v
        rw [keep _ _ _ q]; exact v5
      · show upd S.2.1 (dt w) (S.2.1 (sr w) + 1) g = upd S.2.1 (dt w) (S.2.1 (sr w) + 1) (sr v) + 1
        rw [keep _ _ _ q, keep _ _ _ v6]; exact v7
  · rw [List.mem_singleton] at q
    subst q
    refine Or.inr ⟨w, hw, h1, h2, rfl, if_pos rfl, List.mem_append_left _ ha, ?_⟩
    show upd S.2.1 (dt w) (S.2.1 (sr w) + 1) (dt w) = upd S.2.1 (dt w) (S.2.1 (sr w) + 1) (sr w) + 1
    rw [keep _ _ _ ha]
    exact if_pos rfl
theorem bsB_W {st : Nat → Bool} {sr dt : Nat → Nat} {rm : Nat → Bool} {a : Nat} {S : bsT} (h : bsB st sr dt rm S) (ha : a ∈ S.1) : ∀ w, w ≤ 240 → bsB st sr dt rm (bsW st sr dt rm a S w)
  | 0, _ => h
  | w + 1, hw => by
    have ih := bsB_W h ha w (by omega)
    obtain ⟨l, el⟩ := bsW_pre st sr dt rm a S w
    have ha2 : a ∈ (bsW st sr dt rm a S w).1 := by rw [el]; exact List.mem_append_left _ ha
    rw [bsW]
    by_cases hc : st w = true ∧ sr w = a
    · rw [if_pos hc]
      unfold bsS
      by_cases hq : dt w ∈ (bsW st sr dt rm a S w).1 ∨ rm w = false
      · rw [if_pos hq]; exact ih
      · rw [if_neg hq]
        have h3 : rm w = true := by
          cases e : rm w
          · exact absurd (Or.inr e) hq
          · rfl
        have := bsB_put ih (show w < 240 by omega) hc.1 h3 (by rw [hc.2]; exact ha2) (fun z => hq (Or.inl z))
        rw [hc.2] at this
        exact this
    · rw [if_neg hc]; exact ih
theorem bsB_R {st : Nat → Bool} {sr dt : Nat → Nat} {rm : Nat → Bool} : ∀ (k i : Nat) (S : bsT), bsB st sr dt rm S → bsB st sr dt rm (bsR st sr dt rm k i S)
  | 0, _, _, h => h
  | k + 1, i, S, h => by
    rw [bsR]
    by_cases hi : i < S.1.length
    · rw [dif_pos hi]
      exact bsB_R k (i + 1) _ (bsB_W h (List.getElem_mem hi) 240 (Nat.le_refl _))
    · rw [dif_neg hi]; exact h
theorem bsB_P {st : Nat → Bool} {sr dt : Nat → Nat} {rm : Nat → Bool} {g : Nat} {S : bsT} (h : bsB st sr dt rm S) (hn : ¬ g ∈ S.1) : bsB st sr dt rm (bsP g S) := by
  have keep : ∀ (f : Nat → Int32) (x : Int32) (k : Nat), k ∈ S.1 → upd f g x k = f k := fun f x k hk => if_neg (show ¬ k = g from fun z => hn (z ▸ hk))
  intro k hk
  rcases List.mem_append.mp hk with q | q
  · rcases h k q with ⟨e1, e2⟩ | ⟨v, v1, v2, v3, v4, v5, v6, v7⟩
    · refine Or.inl ⟨?_, ?_⟩
      · show upd S.2.2 g (-1) k = -1
        rw [keep _ _ _ q]; exact e1
      · show upd S.2.1 g 0 k = 0
        rw [keep _ _ _ q]; exact e2
    · refine Or.inr ⟨v, v1, v2, v3, v4, ?_, List.mem_append_left _ v6, ?_⟩
      · show upd S.2.2 g (-1) k = nI v
        rw [keep _ _ _ q]; exact v5
      · show upd S.2.1 g 0 k = upd S.2.1 g 0 (sr v) + 1
        rw [keep _ _ _ q, keep _ _ _ v6]; exact v7
  · rw [List.mem_singleton] at q
    subst q
    exact Or.inl ⟨if_pos rfl, if_pos rfl⟩
/-- from one gauge on an empty row: closed, and each by another -/
theorem bsF_all {st : Nat → Bool} {sr dt : Nat → Nat} {rm : Nat → Bool} {m : Nat} (hm : m ≤ 41) (hd : ∀ w, w < 240 → st w = true → dt w < m) {g : Nat} (hg : g < m) : bsOk m (bsF st sr dt rm g bs0) ∧ g ∈ (bsF st sr dt rm g bs0).1 ∧ (∀ k, k ∈ (bsF st sr dt rm g bs0).1 → bsC st sr dt rm (bsF st sr dt rm g bs0).1 k) ∧ bsB st sr dt rm (bsF st sr dt rm g bs0) := by
  have hn : ¬ g ∈ bs0.1 := List.not_mem_nil
  have okP := bsP_ok (bs0_ok m) hg hn
  unfold bsF
  refine ⟨bsR_ok hd _ _ _ okP, ?_, bsR_cl hm hd _ _ _ (by omega) okP (fun k hk => ?_), bsB_R _ _ _ (bsB_P (fun k hk => absurd hk List.not_mem_nil) hn)⟩
  · obtain ⟨l, el⟩ := bsR_pre st sr dt rm 42 bs0.1.length (bsP g bs0)
    rw [el]
    exact List.mem_append_left _ (List.mem_append_right _ (List.mem_singleton.mpr rfl))
  · exact absurd hk (by show ¬ k ∈ List.take 0 _; simp)
end
section
/-! Chains: firstNearer, findChain -/
/-- v is the first way from g to one that is a step nearer -/
def nxP (st : Nat → Bool) (sr dt : Nat → Nat) (d : Nat → Int32) (g v : Nat) : Prop := v < 240 ∧ (st v = true ∧ sr v = g ∧ d (dt v) = d g - 1) ∧ ∀ u, u < v → ¬ (st u = true ∧ sr u = g ∧ d (dt u) = d g - 1)
theorem l_firstNearer (h : ia_H) (st : Nat → Bool) (sr dt : Nat → Nat) (m : Nat) (hm : m ≤ 41) (hw : wbOk h st sr dt m) (g v : Nat) (hg : g < m) (hv : nxP st sr dt (h.1 37) g v) {Z : Option Value → ia_H → Prop} (hZ : Z (some (.int (nI v))) h) : ∀ (k w : Nat), w ≤ v → wcn st sr g w + k = wcn st sr g 240 → R_ ia_k_X6_firstNearer Z (7, [some (.ref 29), some (.int (nI g)), some (.int (nI (wsm st sr g + wcn st sr g w)))], [], h) := by
  obtain ⟨v1, ⟨v2, v3, v4⟩, v5⟩ := hv
  have ea1 : wsm st sr (g + 1) = wsm st sr g + wcn st sr g 240 := rfl
  have hall := wsm_all st sr (g + 1)
  intro k
  induction k with
  | zero =>
    intro w w1 w2
    have q1 := wcn_t (st := st) (sr := sr) v2
    rw [v3] at q1
    have q2 := wcn_mono (st := st) (sr := sr) (g := g) w1
    have q3 := wcn_mono (st := st) (sr := sr) (g := g) (show v + 1 ≤ 240 by omega)
    omega
  | succ k ih =>
    intro w w1 w2
    obtain ⟨u, u1, u2, u3, u4, u5⟩ := wcn_next (st := st) (sr := sr) (a := g) (240 - w) w (by omega) (by omega)
    have uv : u ≤ v := by
      rcases Nat.lt_or_ge v u with q | q
      · exact absurd ⟨v2, v3⟩ (u5 v w1 q)
      · exact q
    obtain ⟨-, s2⟩ := bsW_skip (st := st) (sr := sr) (dt := dt) (rm := fun _ => true) (S := bs0) u1 u5
    obtain ⟨l1, l2, -⟩ := hw.1 u u2 u3
    have eY : h.1 31 (wsm st sr g + wcn st sr g w) = nI u := by
      have := hw.2.2 u u2 u3
      rw [u4, s2] at this
      exact this
    have et := wcn_t (st := st) (sr := sr) u3
    rw [u4, s2] at et
    have em := wcn_mono (st := st) (sr := sr) (g := g) (show u + 1 ≤ 240 by omega)
    refine ia_walk (fun pc => Nat.beq pc 7) 60 (fun X hX => ?_)
    conv => whnf
    refine Exists.intro (g + 1) (And.intro (And.intro (nI_1 g) (by omega)) ?_)
    conv => whnf
    refine And.intro (fun c => ?_) (fun c => ?_)
    · conv => whnf
      refine Exists.intro _ (And.intro (And.intro rfl (by omega)) ?_)
      conv => whnf
      refine Exists.intro (u) (And.intro (And.intro (eY) (u2)) ?_)
      conv => whnf
      refine Exists.intro (dt u) (And.intro (And.intro (l1) (by omega)) ?_)
      conv => whnf
      refine Exists.intro _ (And.intro (And.intro rfl (by omega)) ?_)
      conv => whnf
      refine And.intro (fun c1 => ?_) (fun c1 => ?_)
      · have euv : u = v := by
          rcases Nat.lt_or_ge u v with q | q
          · exact absurd ⟨u3, u4, c1⟩ (v5 u q)
          · omega
        conv => whnf
        refine Exists.intro _ (And.intro (And.intro rfl (by omega)) ?_)
        conv => whnf
        rw [eY, euv]
        exact hZ
      · have huv : u < v := by
          rcases Nat.lt_or_ge u v with q | q
          · exact q
          · have : u = v := by omega
            subst this
            exact absurd v4 c1
        conv => whnf
        rw [nI_1, Nat.add_assoc, ← et]
        exact hX _ (ih (u + 1) (by omega) (by omega))
    · exact absurd (show nI (wsm st sr g + wcn st sr g w) < h.1 32 (g + 1) by rw [hw.2.1 _ (by omega), ea1]; exact nI_lt (by omega) (by omega)) c
theorem v_firstNearer (h : ia_H) (st : Nat → Bool) (sr dt : Nat → Nat) (m : Nat) (hm : m ≤ 41) (hw : wbOk h st sr dt m) (g v : Nat) (hg : g < m) (hv : nxP st sr dt (h.1 37) g v) : V_ 49 [.ref 29, .int (nI g)] h (Z_ (.int (nI v)) h) := by
  refine ia_V_in ia_k_X6_firstNearer [some (.ref 29), some (.int (nI g)), none] rfl rfl (Nat.le_of_ble_eq_true rfl) rfl ?_
  refine ia_walk (fun pc => Nat.beq pc 7) 60 (fun X hX => ?_)
  conv => whnf
  refine Exists.intro _ (And.intro (And.intro rfl (by omega)) ?_)
  conv => whnf
  have eb : h.1 32 g = nI (wsm st sr g + wcn st sr g 0) := hw.2.1 g (by omega)
  rw [eb]
  exact hX _ (l_firstNearer h st sr dt m hm hw g v hg hv ⟨rfl, rfl⟩ (wcn st sr g 240) 0 (by omega) (Nat.zero_add _))
/-- the places of a chain: from x on, by the ways nx -/
def chA (dt nx : Nat → Nat) (x : Nat) : Nat → Nat
  | 0 => x
  | k + 1 => dt (nx (chA dt nx x k))
/-- how far: each step is one nearer -/
theorem chA_d {st : Nat → Bool} {sr dt : Nat → Nat} {d : Nat → Int32} {nx : Nat → Nat} {x n : Nat} (hn : n < 2 ^ 30) (hx : d x = nI n) (P : Nat → Prop) (hP : P x) (hnx : ∀ g, P g → ¬ d g = 0 → nxP st sr dt d g (nx g) ∧ P (dt (nx g))) : ∀ k, k ≤ n → d (chA dt nx x k) = nI (n - k) ∧ P (chA dt nx x k)
  | 0, _ => ⟨hx, hP⟩
  | k + 1, hk => by
    obtain ⟨i1, i2⟩ := chA_d hn hx P hP hnx k (by omega)
    have hne : ¬ d (chA dt nx x k) = 0 := by rw [i1]; exact nI_ne0 (by omega) (by omega)
    obtain ⟨j1, j2⟩ := hnx _ i2 hne
    refine ⟨?_, j2⟩
    show d (dt (nx (chA dt nx x k))) = _
    rw [j1.2.1.2.2, i1, show n - k = (n - (k + 1)) + 1 by omega]
    exact nI_pred _
theorem l_findChain (h : ia_H) (st : Nat → Bool) (sr dt : Nat → Nat) (m : Nat) (hm : m ≤ 41) (hw : wbOk h st sr dt m) (nx : Nat → Nat) (x n : Nat) (hn : n < 120) (o : Int32) (P : Nat → Prop) (hPm : ∀ g, P g → g < m) (hP : P x) (hx : h.1 37 x = nI n) (hnx : ∀ g, P g → ¬ h.1 37 g = 0 → nxP st sr dt (h.1 37) g (nx g) ∧ P (dt (nx g))) {Z : Option Value → ia_H → Prop} (hZ : ∀ T : Nat → Int32, (∀ k, k < n → T k = nI (nx (chA dt nx x k) / 2)) → Z (some (.int (nI n))) (hsI h 34 T)) : ∀ (k j : Nat) (a6 : Option Value), j + k = n → ∀ T : Nat → Int32, (∀ i, i < j → T i = nI (nx (chA dt nx x i) / 2)) → R_ ia_k_X6_findChain Z (30, [some (.ref 29), some (.int (nI x)), some (.int o), some (.int (nI n)), some (.int (nI (chA dt nx x j))), some (.int (nI j)), a6], [], hsI h 34 T) := by
  intro k
  induction k with
  | zero =>
    intro j a6 hj T hT
    have ej : j = n := by omega
    subst ej
    refine ia_walk (fun pc => Nat.beq pc 30) 60 (fun X hX => ?_)
    conv => whnf
    refine And.intro (fun c => ?_) (fun c => ?_)
    · exact absurd c (nI_nlt (Nat.le_refl _) (by omega))
    · conv => whnf
      exact hZ T hT
  | succ k ih =>
    intro j a6 hj T hT
    obtain ⟨d1, d2⟩ := chA_d (st := st) (sr := sr) (by omega) hx P hP hnx j (by omega)
    have hne : ¬ h.1 37 (chA dt nx x j) = 0 := by rw [d1]; exact nI_ne0 (by omega) (by omega)
    obtain ⟨j1, j2⟩ := hnx _ d2 hne
    have hgm := hPm _ d2
    obtain ⟨n1, ⟨n2, n3, n4⟩, n5⟩ := j1
    obtain ⟨l1, l2, -⟩ := hw.1 _ n1 n2
    refine ia_walk (fun pc => Nat.beq pc 30) 60 (fun X hX => ?_)
    conv => whnf
    refine And.intro (fun c => ?_) (fun c => ?_)
    · conv => whnf
      refine Exists.intro (_, _) (And.intro (ia_callE (v_firstNearer (hsI h 34 T) st sr dt m hm hw (chA dt nx x j) (nx (chA dt nx x j)) hgm ⟨n1, ⟨n2, n3, n4⟩, n5⟩)) ?_)
      conv => whnf
      refine And.intro (fun c1 => ?_) (fun c1 => ?_)
      · exact absurd c1 (nI_nm1 (by omega))
      · conv => whnf
        refine Exists.intro _ (And.intro (And.intro rfl (by omega)) ?_)
        conv => whnf
        refine Exists.intro _ (And.intro (And.intro rfl (by omega)) ?_)
        conv => whnf
        rw [nI_1, shr1 _ n1]
        have e : hsI (hsI h 34 T) 34 (upd T j (nI (nx (chA dt nx x j) / 2))) = hsI h 34 (upd T j (nI (nx (chA dt nx x j) / 2))) := hsI_same _ _ _ _
        have nxt := ih (j + 1) (some (.int (nI (nx (chA dt nx x j))))) (by omega) (upd T j (nI (nx (chA dt nx x j) / 2))) (fun i hi => by
          simp only [upd]
          by_cases hij : i = j
          · subst hij; rw [if_pos rfl]
          · rw [if_neg hij]; exact hT i (by omega))
        rw [← e] at nxt
        have l1 : h.1 30 (nx (chA dt nx x j)) = nI (chA dt nx x (j + 1)) := l1
        rw [← l1] at nxt
        exact hX _ nxt
    · exact absurd (nI_lt (show j < n by omega) (by omega)) c
end
section
/-! findChain whole; the reference's isStep and laysChain -/
/-- alike, as far as it matters -/
def bsE (S T : bsT) : Prop := S.1 = T.1 ∧ (∀ g, g < 41 → S.2.1 g = T.2.1 g) ∧ ∀ g, g ∈ S.1 → S.2.2 g = T.2.2 g
theorem bsE_S {rm : Nat → Bool} {dt : Nat → Nat} {a w : Nat} {S T : bsT} (h : bsE S T) (ha : a < 41) : bsE (bsS rm dt a S w) (bsS rm dt a T w) := by
  obtain ⟨h1, h2, h3⟩ := h
  unfold bsS
  rw [← h1]
  by_cases hq : dt w ∈ S.1 ∨ rm w = false
  · rw [if_pos hq, if_pos hq]; exact ⟨h1, h2, h3⟩
  · rw [if_neg hq, if_neg hq]
    refine ⟨rfl, fun g hg => ?_, fun g hg => ?_⟩
    · show upd S.2.1 (dt w) (S.2.1 a + 1) g = upd T.2.1 (dt w) (T.2.1 a + 1) g
      simp only [upd]
      rw [h2 a ha, h2 g hg]
    · show upd S.2.2 (dt w) (nI w) g = upd T.2.2 (dt w) (nI w) g
      simp only [upd]
      by_cases e : g = dt w
      · rw [if_pos e, if_pos e]
      · rw [if_neg e, if_neg e]
        rcases List.mem_append.mp hg with q | q
        · exact h3 g q
        · exact absurd (List.mem_singleton.mp q) e
theorem bsE_W {st : Nat → Bool} {sr dt : Nat → Nat} {rm : Nat → Bool} {a : Nat} {S T : bsT} (h : bsE S T) (ha : a < 41) : ∀ w, bsE (bsW st sr dt rm a S w) (bsW st sr dt rm a T w)
  | 0 => h
  | w + 1 => by
    have ih := bsE_W (st := st) (sr := sr) (dt := dt) (rm := rm) h ha w
    rw [bsW, bsW]
    by_cases hc : st w = true ∧ sr w = a
    · rw [if_pos hc, if_pos hc]; exact bsE_S ih ha
    · rw [if_neg hc, if_neg hc]; exact ih
theorem bsE_R {st : Nat → Bool} {sr dt : Nat → Nat} {rm : Nat → Bool} {m : Nat} (hm : m ≤ 41) (hd : ∀ w, w < 240 → st w = true → dt w < m) : ∀ (k i : Nat) {S T : bsT}, bsOk m S → bsE S T → bsE (bsR st sr dt rm k i S) (bsR st sr dt rm k i T)
  | 0, _, _, _, _, h => h
  | k + 1, i, S, T, hok, h => by
    rw [bsR, bsR]
    by_cases hi : i < S.1.length
    · have hi2 : i < T.1.length := by rw [← h.1]; exact hi
      rw [dif_pos hi, dif_pos hi2]
      have ha : S.1[i] ∈ S.1 := List.getElem_mem hi
      have e : T.1[i] = S.1[i] := by simp only [← h.1]
      rw [e]
      have := (hok.2.1 _ ha).1
      exact bsE_R hm hd k (i + 1) (bsW_ok hd hok ha 240 (Nat.le_refl _)).1 (bsE_W h (by omega) 240)
    · have hi2 : ¬ i < T.1.length := by rw [← h.1]; exact hi
      rw [dif_neg hi, dif_neg hi2]; exact h
theorem bsE_F {st : Nat → Bool} {sr dt : Nat → Nat} {rm : Nat → Bool} {m : Nat} (hm : m ≤ 41) (hd : ∀ w, w < 240 → st w = true → dt w < m) {g : Nat} (hg : g < m) {S T : bsT} (hok : bsOk m S) (hn : ¬ g ∈ S.1) (h : bsE S T) : bsE (bsF st sr dt rm g S) (bsF st sr dt rm g T) := by
  unfold bsF
  rw [← h.1]
  refine bsE_R hm hd _ _ (bsP_ok hok hg hn) ⟨?_, fun k hk => ?_, fun k hk => ?_⟩
  · show S.1 ++ [g] = T.1 ++ [g]
    rw [h.1]
  · show upd S.2.1 g 0 k = upd T.2.1 g 0 k
    simp only [upd]
    rw [h.2.1 k hk]
  · show upd S.2.2 g (-1) k = upd T.2.2 g (-1) k
    simp only [upd]
    by_cases e : k = g
    · rw [if_pos e, if_pos e]
    · rw [if_neg e, if_neg e]
      rcases List.mem_append.mp hk with q | q
      · exact h.2.2 k q
      · exact absurd (List.mem_singleton.mp q) e
theorem v_forget2 (h : ia_H) : V_ 44 [.ref 29] h (fun r h' => r = none ∧ h' = hB h (h.1 36) (flF (h.1 37) 41 (-1)) (h.1 38) 0) := by
  refine ia_V_in ia_k_X6_forgetReached [some (.ref 29)] rfl rfl (Nat.le_of_ble_eq_true rfl) rfl ?_
  refine ia_walk (fun _ => false) 60 (fun X hX => ?_)
  conv => whnf
  refine Exists.intro (_, _) (And.intro (ia_callE (v_fill_steps h (-1))) ?_)
  conv => whnf
  refine ⟨rfl, ?_⟩
  show hsI (hsI h 37 (flF (h.1 37) 41 (-1))) 29 (upd (h.1 29) 7 0) = _
  unfold hB
  rw [hsI_eta h 36]
  have e : (hsI h 37 (flF (h.1 37) 41 (-1))).1 38 = h.1 38 := rfl
  rw [← e, hsI_eta]
  rfl
/-- where the class begins to reach -/
def bsH (h : ia_H) : bsT := ([], flF (h.1 37) 41 (-1), h.1 38)
theorem bsH_ok (h : ia_H) (m : Nat) : bsOk m (bsH h) := ⟨List.nodup_nil, fun g hg => (List.not_mem_nil hg).elim, fun g hg _ => if_pos hg⟩
theorem bsH_E (h : ia_H) : bsE (bsH h) bs0 := ⟨rfl, fun g hg => if_pos hg, fun g hg => (List.not_mem_nil hg).elim⟩
/-- the heap of a search with no flow -/
def h0F (h : ia_H) : ia_H := hsI h 39 (flF (h.1 39) 120 0)
theorem rm_0 (h : ia_H) : ∀ w, w < 240 → rmF ((h0F h).1 39) w = true := by
  intro w hw
  have e : (h0F h).1 39 (w / 2) = 0 := by
    show flF (h.1 39) 120 0 (w / 2) = 0
    exact if_pos (by omega)
  unfold rmF
  rw [e]
  split <;> decide
theorem bsW_rm {st : Nat → Bool} {sr dt : Nat → Nat} {rm rm2 : Nat → Bool} {a : Nat} {S : bsT} : ∀ {w : Nat}, (∀ v, v < w → rm v = rm2 v) → bsW st sr dt rm a S w = bsW st sr dt rm2 a S w
  | 0, _ => rfl
  | w + 1, h => by
    rw [bsW, bsW, bsW_rm (fun v hv => h v (by omega))]
    unfold bsS
    rw [h w (by omega)]
theorem bsR_rm {st : Nat → Bool} {sr dt : Nat → Nat} {rm rm2 : Nat → Bool} (h : ∀ v, v < 240 → rm v = rm2 v) : ∀ (k i : Nat) (S : bsT), bsR st sr dt rm k i S = bsR st sr dt rm2 k i S
  | 0, _, _ => rfl
  | k + 1, i, S => by
    rw [bsR, bsR]
    by_cases hi : i < S.1.length
    · rw [dif_pos hi, dif_pos hi, bsW_rm h, bsR_rm h]
    · rw [dif_neg hi, dif_neg hi]
theorem v_findChain (h : ia_H) (st : Nat → Bool) (sr dt : Nat → Nat) (m : Nat) (hm : m ≤ 41) (hw : wbOk h st sr dt m) (x o : Nat) (hxm : x < m) (ho : o < m) (nx : Nat → Nat) (hnx : ∀ g, g ∈ (bsF st sr dt tt o bs0).1 → ¬ (bsF st sr dt tt o bs0).2.1 g = 0 → nxP st sr dt (bsF st sr dt tt o bs0).2.1 g (nx g) ∧ dt (nx g) ∈ (bsF st sr dt tt o bs0).1) :
    V_ 48 [.ref 29, .int (nI x), .int (nI o)] h (fun r h' => r = some (.int ((bsF st sr dt tt o bs0).2.1 x)) ∧ ∃ R d b c T, h' = hsI (hB (h0F h) R d b c) 34 T ∧ ∀ n, (bsF st sr dt tt o bs0).2.1 x = nI n → n < 2 ^ 30 → ∀ k, k < n → T k = nI (nx (chA dt nx x k) / 2)) := by
  have hdt : ∀ w, w < 240 → st w = true → dt w < m := fun w h1 h2 => (hw.1 w h1 h2).2.1
  have hw0 : wbOk (h0F h) st sr dt m := hw
  have e0 : bsF st sr dt (rmF ((h0F h).1 39)) o (bsH (h0F h)) = bsF st sr dt tt o (bsH (h0F h)) := bsR_rm (fun v hv => rm_0 h v hv) _ _ _
  have hE := bsE_F (sr := sr) (rm := tt) hm hdt ho (bsH_ok (h0F h) m) List.not_mem_nil (bsH_E (h0F h))
  obtain ⟨okF, -, -, -⟩ := bsF_all (sr := sr) (rm := tt) hm hdt ho
  have ed := hE.2.1
  clear hE
  generalize bsF st sr dt tt o bs0 = S2 at hnx okF ed ⊢
  refine ia_V_in ia_k_X6_findChain [some (.ref 29), some (.int (nI x)), some (.int (nI o)), none, none, none, none] rfl rfl (Nat.le_of_ble_eq_true rfl) rfl ?_
  refine ia_walk (fun pc => Nat.beq pc 30) 60 (fun X hX => ?_)
  conv => whnf
  refine Exists.intro (_, _) (And.intro (ia_callE (v_fill_flow h 0)) ?_)
  conv => whnf
  refine Exists.intro (_, _) (And.intro (ia_callE (v_forget2 (h0F h))) ?_)
  conv => whnf
  obtain ⟨r, h2, ev, z1, R2, z2, z3⟩ := v_reachFrom (h0F h) st sr dt m hm hw0 o ho (bsH (h0F h)) (bsH_ok _ m) List.not_mem_nil ((h0F h).1 36) (fun i hi => absurd hi (Nat.not_lt_zero i))
  refine Exists.intro (r, h2) (And.intro ev ?_)
  subst z1
  subst z3
  rw [e0] at z2 ⊢
  conv => whnf
  refine Exists.intro _ (And.intro (And.intro rfl (by omega)) ?_)
  conv => whnf
  generalize bsF st sr dt tt o (bsH (h0F h)) = S1 at z2 ed ⊢
  have ex : S1.2.1 x = S2.2.1 x := ed x (by omega)
  by_cases hin : x ∈ S2.1
  · obtain ⟨-, n, n1, n2⟩ := okF.2.1 x hin
    have ln := bsOk_len okF
    have l1 := l_findChain (hB (h0F h) R2 S1.2.1 S1.2.2 S1.1.length) st sr dt m hm hw nx x n (by omega) (nI o) (fun g => g ∈ S2.1) (fun g hg => (okF.2.1 g hg).1) hin (show S1.2.1 x = nI n by rw [ex]; exact n2) (fun g hg hne => by
      have hne2 : ¬ S2.2.1 g = 0 := fun q => hne (show S1.2.1 g = 0 by rw [ed g (by have := (okF.2.1 g hg).1; omega)]; exact q)
      obtain ⟨q1, q2⟩ := hnx g hg hne2
      refine ⟨⟨q1.1, ⟨q1.2.1.1, q1.2.1.2.1, ?_⟩, fun u hu hc => q1.2.2 u hu ⟨hc.1, hc.2.1, ?_⟩⟩, q2⟩
      · show S1.2.1 (dt (nx g)) = S1.2.1 g - 1
        rw [ed _ (by have := (okF.2.1 _ q2).1; omega), ed g (by have := (okF.2.1 g hg).1; omega)]
        exact q1.2.1.2.2
      · have hu2 := hdt u (by have := q1.1; omega) hc.1
        have hc3 : S1.2.1 (dt u) = S1.2.1 g - 1 := hc.2.2
        rw [ed _ (by omega), ed g (by have := (okF.2.1 g hg).1; omega)] at hc3
        exact hc3) (Z := fun r h' => r = some (.int (S2.2.1 x)) ∧ ∃ R d b c T, h' = hsI (hB (h0F h) R d b c) 34 T ∧ ∀ n, S2.2.1 x = nI n → n < 2 ^ 30 → ∀ k, k < n → T k = nI (nx (chA dt nx x k) / 2)) (fun T hT => ⟨by rw [n2], R2, S1.2.1, S1.2.2, S1.1.length, T, rfl, fun n' e1 e2 k hk => by
        have : n' = n := nI_inj (by omega) (by omega) (e1.symm.trans n2)
        subst this
        exact hT k hk⟩) n 0 none (by omega) (h.1 34) (fun i hi => absurd hi (Nat.not_lt_zero i))
    have e34 : hsI (hB (h0F h) R2 S1.2.1 S1.2.2 S1.1.length) 34 (h.1 34) = hB (h0F h) R2 S1.2.1 S1.2.2 S1.1.length := hsI_eta (hB (h0F h) R2 S1.2.1 S1.2.2 S1.1.length) 34
    rw [e34] at l1
    have e5 : (hB (h0F h) R2 S1.2.1 S1.2.2 S1.1.length).1 37 x = nI n := by
      show S1.2.1 x = nI n
      rw [ex, n2]
    rw [e5]
    exact hX _ l1
  · have en : S2.2.1 x = -1 := okF.2.2 x (by omega) hin
    refine hX _ ?_
    refine ia_walk (fun pc => Nat.beq pc 30) 60 (fun X hX => ?_)
    conv => whnf
    refine And.intro (fun c => ?_) (fun c => ?_)
    · exact absurd (show (0 : Int32) < S1.2.1 x from c) (by rw [ex, en]; decide)
    · conv => whnf
      refine ⟨by show some (Value.int (S1.2.1 x)) = _; rw [ex], R2, S1.2.1, S1.2.2, S1.1.length, h.1 34, (hsI_eta (hB (h0F h) R2 S1.2.1 S1.2.2 S1.1.length) 34).symm, fun n e1 e2 => ?_⟩
      exact absurd (e1.symm.trans en) (nI_nm1 (by omega))
end
section
/-! The reference's isStep, laysChain -/
def isSt (sd : Nat → Bool) (A B : Nat → Nat) (F : Nat → Int32) (s g : Nat) : Bool := sd s && ((decide (A s = g) && decide (F (B s) = F g - 1)) || (decide (B s = g) && decide (F (A s) = F g - 1)))
theorem m_isStep (h : ia_H) (n G : Nat) (sd : Nat → Bool) (A B : Nat → Nat) (hd : mdOk h n G sd A B) (s g : Nat) (hs : s < n) (hg : g < G) : V_ 151 [.ref 52, .int (nI s), .int (nI g)] h (Z_ (.int (bif isSt sd A B (h.1 69) s g then 1 else 0)) h) := by
  obtain ⟨hn, hG, eN, eG, hS, hsd⟩ := hd
  obtain ⟨s1, s2, s3, s4, s5, s6⟩ := hS s hs
  refine ia_V_in ia_k_X8_isStep [some (.ref 52), some (.int (nI s)), some (.int (nI g))] rfl rfl (Nat.le_of_ble_eq_true rfl) rfl ?_
  refine ia_walk (fun _ => false) 90 (fun X hX => ?_)
  conv => whnf
  obtain ⟨x, ex, ev⟩ := ia_callN (f := Value.int) (m_isStanding h s (by omega))
  refine Exists.intro (_, _) (And.intro ev ?_)
  have ex : x = bif sd s then 1 else 0 := by rw [ex, s6]
  conv => whnf
  refine And.intro (fun c1 => ?_) (fun c1 => ?_)
  · have hsf : sd s = false := by
      cases hq : sd s
      · rfl
      · rw [hq] at ex; rw [ex] at c1; exact absurd c1 (by decide)
    conv => whnf
    exact ⟨Or.inl rfl, by simp only [isSt, hsf, Bool.false_and]; rfl, rfl⟩
  · have hst : sd s = true := by
      cases hq : sd s
      · rw [hq] at ex; exact absurd ex c1
      · rfl
    conv => whnf
    refine Exists.intro _ (And.intro (And.intro rfl (by omega)) ?_)
    conv => whnf
    refine And.intro (fun c2 => ?_) (fun c2 => ?_)
    · have hA : A s = g := nI_inj (by omega) (by omega) (s1.symm.trans c2)
      have hB : ¬ B s = g := fun q => s5 (hA.trans q.symm)
      conv => whnf
      refine Exists.intro _ (And.intro (And.intro rfl (by omega)) ?_)
      conv => whnf
      refine Exists.intro (B s) (And.intro (And.intro (s3) (by omega)) ?_)
      conv => whnf
      refine Exists.intro _ (And.intro (And.intro rfl (by omega)) ?_)
      conv => whnf
      refine And.intro (fun c3 => ?_) (fun c3 => ?_)
      · conv => whnf
        exact ⟨Or.inr rfl, by simp only [isSt, hst, decide_eq_true hA, decide_eq_true (show h.1 69 (B s) = h.1 69 g - 1 from c3), Bool.true_and, Bool.true_or]; rfl, rfl⟩
      · conv => whnf
        refine Exists.intro _ (And.intro (And.intro rfl (by omega)) ?_)
        conv => whnf
        refine And.intro (fun c4 => ?_) (fun c4 => ?_)
        · exact absurd (nI_inj (by omega) (by omega) (s3.symm.trans c4)) hB
        · conv => whnf
          exact ⟨Or.inl rfl, by simp only [isSt, hst, decide_eq_false (show ¬ h.1 69 (B s) = h.1 69 g - 1 from c3), decide_eq_false hB, Bool.and_false, Bool.false_and, Bool.or_false]; rfl, rfl⟩
    · have hA : ¬ A s = g := fun q => c2 (by show h.1 56 s = nI g; rw [s1, q])
      conv => whnf
      refine Exists.intro _ (And.intro (And.intro rfl (by omega)) ?_)
      conv => whnf
      refine And.intro (fun c3 => ?_) (fun c3 => ?_)
      · have hB : B s = g := nI_inj (by omega) (by omega) (s3.symm.trans c3)
        conv => whnf
        refine Exists.intro _ (And.intro (And.intro rfl (by omega)) ?_)
        conv => whnf
        refine Exists.intro (A s) (And.intro (And.intro (s1) (by omega)) ?_)
        conv => whnf
        refine Exists.intro _ (And.intro (And.intro rfl (by omega)) ?_)
        conv => whnf
        refine And.intro (fun c4 => ?_) (fun c4 => ?_)
        · conv => whnf
          exact ⟨Or.inr rfl, by simp only [isSt, hst, decide_eq_false hA, decide_eq_true hB, decide_eq_true (show h.1 69 (A s) = h.1 69 g - 1 from c4), Bool.true_and, Bool.false_and, Bool.false_or]; rfl, rfl⟩
        · conv => whnf
          exact ⟨Or.inl rfl, by simp only [isSt, hst, decide_eq_false hA, decide_eq_false (show ¬ h.1 69 (A s) = h.1 69 g - 1 from c4), Bool.and_false, Bool.false_and, Bool.or_false]; rfl, rfl⟩
      · have hB : ¬ B s = g := fun q => c3 (by show h.1 57 s = nI g; rw [s3, q])
        conv => whnf
        exact ⟨Or.inl rfl, by simp only [isSt, decide_eq_false hA, decide_eq_false hB, Bool.false_and, Bool.or_false, Bool.and_false]; rfl, rfl⟩
/-- the first way that is nearer is the first statement that is a step -/
theorem isSt_nx {sd : Nat → Bool} {A B : Nat → Nat} {F : Nat → Int32} {g v : Nat} (hv : nxP (cst sd) (csr A B) (cdt A B) F g v) : isSt sd A B F (v / 2) g = true ∧ ∀ s, s < v / 2 → isSt sd A B F s g = false := by
  obtain ⟨v1, ⟨v2, v3, v4⟩, v5⟩ := hv
  refine ⟨?_, fun s hs => ?_⟩
  · have v2 : sd (v / 2) = true := v2
    unfold csr at v3
    unfold cdt at v4
    by_cases hp : v % 2 = 0
    · rw [if_pos hp] at v3 v4
      simp only [isSt, v2, decide_eq_true v3, decide_eq_true v4, Bool.true_and, Bool.true_or]
    · rw [if_neg hp] at v3 v4
      simp only [isSt, v2, decide_eq_true v3, decide_eq_true v4, Bool.true_and, Bool.or_true]
  · obtain ⟨e1, e2, e3⟩ := c_even sd A B s
    obtain ⟨o1, o2, o3⟩ := c_odd sd A B s
    have n1 := v5 (2 * s) (by omega)
    have n2 := v5 (2 * s + 1) (by omega)
    rw [e1, e2, e3] at n1
    rw [o1, o2, o3] at n2
    unfold isSt
    cases hq : sd s
    · rfl
    · rw [hq] at n1 n2
      simp only [Bool.true_and, Bool.or_eq_false_iff, Bool.and_eq_false_iff, decide_eq_false_iff_not]
      refine ⟨?_, ?_⟩
      · by_cases hA : A s = g
        · exact Or.inr (fun q => n1 ⟨rfl, hA, q⟩)
        · exact Or.inl hA
      · by_cases hB : B s = g
        · exact Or.inr (fun q => n2 ⟨rfl, hB, q⟩)
        · exact Or.inl hB
theorem l_mchain (h : ia_H) (n G : Nat) (sd : Nat → Bool) (A B : Nat → Nat) (hd : mdOk h n G sd A B) (nx : Nat → Nat) (x o N : Nat) (hN : N < 41) (ho : o < G) (P : Nat → Prop) (hPG : ∀ g, P g → g < G) (hP : P x) (hx : h.1 69 x = nI N) (h0 : ∀ g, P g → (h.1 69 g = 0 ↔ g = o)) (hnx : ∀ g, P g → ¬ h.1 69 g = 0 → nxP (cst sd) (csr A B) (cdt A B) (h.1 69) g (nx g) ∧ P (cdt A B (nx g))) {Z : Option Value → ia_H → Prop} (hZ : ∀ T : Nat → Int32, (∀ k, k < N → T k = nI (nx (chA (cdt A B) nx x k) / 2)) → Z (some (.int (nI N))) (hsI h 70 T)) : ∀ (k j : Nat) (a5 : Option Value), j + k = N → ∀ T : Nat → Int32, (∀ i, i < j → T i = nI (nx (chA (cdt A B) nx x i) / 2)) → R_ ia_k_X8_laysChain Z (27, [some (.ref 52), some (.int (nI x)), some (.int (nI o)), some (.int (nI (chA (cdt A B) nx x j))), some (.int (nI j)), a5], [], hsI h 70 T) := by
  have hd0 := hd
  obtain ⟨hn, hG, eN, eG, hS, hsd⟩ := hd
  intro k
  induction k with
  | zero =>
    intro j a5 hj T hT
    have ej : j = N := by omega
    subst ej
    obtain ⟨d1, d2⟩ := chA_d (st := cst sd) (sr := csr A B) (by omega) hx P hP hnx j (Nat.le_refl _)
    rw [Nat.sub_self] at d1
    have eo : chA (cdt A B) nx x j = o := (h0 _ d2).mp d1
    refine ia_walk (fun pc => Nat.beq pc 27) 60 (fun X hX => ?_)
    conv => whnf
    refine And.intro (fun c => ?_) (fun c => ?_)
    · conv => whnf
      exact hZ T hT
    · exact absurd (by rw [eo]) c
  | succ k ih =>
    intro j a5 hj T hT
    obtain ⟨d1, d2⟩ := chA_d (st := cst sd) (sr := csr A B) (by omega) hx P hP hnx j (by omega)
    have hne : ¬ h.1 69 (chA (cdt A B) nx x j) = 0 := by rw [d1]; exact nI_ne0 (by omega) (by omega)
    obtain ⟨j1, j2⟩ := hnx _ d2 hne
    have hgG := hPG _ d2
    have hno : ¬ chA (cdt A B) nx x j = o := fun q => hne ((h0 _ d2).mpr q)
    obtain ⟨t1, t2⟩ := isSt_nx j1
    have ech : chA (cdt A B) nx x (j + 1) = cdt A B (nx (chA (cdt A B) nx x j)) := rfl
    generalize hgg : chA (cdt A B) nx x j = g at *
    generalize hvv : nx g = v at *
    have hsn : v / 2 < n := by
      rcases Nat.lt_or_ge (v / 2) n with q | q
      · exact q
      · have : sd (v / 2) = true := j1.2.1.1
        rw [hsd _ q] at this; cases this
    obtain ⟨s1, s2, s3, s4, s5, s6⟩ := hS _ hsn
    -- the end of a round, with the statement found
    have fin : R_ ia_k_X8_laysChain Z (51, [some (.ref 52), some (.int (nI x)), some (.int (nI o)), some (.int (nI g)), some (.int (nI j)), some (.int (nI (v / 2)))], [], hsI h 70 T) := by
      have put : ∀ t : Nat, t = cdt A B v → R_ ia_k_X8_laysChain Z (91, [some (.ref 52), some (.int (nI x)), some (.int (nI o)), some (.int (nI g)), some (.int (nI (j + 1))), some (.int (nI (v / 2)))], [.int (nI t)], hsI h 70 (upd T j (nI (v / 2)))) := by
        intro t ht
        refine ia_walk (fun pc => Nat.beq pc 27) 60 (fun X hX => ?_)
        conv => whnf
        rw [ht, ← ech]
        exact hX _ (ih (j + 1) _ (by omega) (upd T j (nI (v / 2))) (fun i hi => by
          simp only [upd]
          by_cases hij : i = j
          · subst hij; rw [if_pos rfl, hgg, hvv]
          · rw [if_neg hij]; exact hT i (by omega)))
      have e : hsI (hsI h 70 T) 70 (upd T j (nI (v / 2))) = hsI h 70 (upd T j (nI (v / 2))) := hsI_same _ _ _ _
      refine ia_walk (fun pc => Nat.beq pc 91) 60 (fun X hX => ?_)
      conv => whnf
      refine Exists.intro _ (And.intro (And.intro rfl (by omega)) ?_)
      conv => whnf
      refine Exists.intro _ (And.intro (And.intro rfl (by omega)) ?_)
      conv => whnf
      refine And.intro (fun c => ?_) (fun c => ?_)
      · have hA : A (v / 2) = g := nI_inj (by omega) (by omega) (s1.symm.trans c)
        conv => whnf
        refine Exists.intro _ (And.intro (And.intro rfl (by omega)) ?_)
        conv => whnf
        rw [nI_1]
        have pt := put (B (v / 2)) (by
          have w1 : csr A B v = g := j1.2.1.2.1
          unfold csr at w1
          unfold cdt
          by_cases hp : v % 2 = 0
          · rw [if_pos hp]
          · rw [if_neg hp] at w1 ⊢
            exact absurd (hA.trans w1.symm) s5)
        rw [← e, ← s3] at pt
        exact hX _ pt
      · have hA : ¬ A (v / 2) = g := fun q => c (by show h.1 56 (v / 2) = nI g; rw [s1, q])
        conv => whnf
        refine Exists.intro _ (And.intro (And.intro rfl (by omega)) ?_)
        conv => whnf
        rw [nI_1]
        have pt := put (A (v / 2)) (by
          have w1 : csr A B v = g := j1.2.1.2.1
          unfold csr at w1
          unfold cdt
          by_cases hp : v % 2 = 0
          · rw [if_pos hp] at w1
            exact absurd w1 hA
          · rw [if_neg hp])
        rw [← e, ← s1] at pt
        exact hX _ pt
    have inner : ∀ (k2 s : Nat), s + k2 = v / 2 → R_ ia_k_X8_laysChain Z (35, [some (.ref 52), some (.int (nI x)), some (.int (nI o)), some (.int (nI g)), some (.int (nI j)), some (.int (nI s))], [], hsI h 70 T) := by
      intro k2
      induction k2 with
      | zero =>
        intro s hs
        have es : s = v / 2 := by omega
        subst es
        refine ia_walk (fun pc => Nat.beq pc 51) 60 (fun X hX => ?_)
        have ms := m_isStep (hsI h 70 T) n G sd A B hd0 (v / 2) g hsn hgG
        rw [show isSt sd A B ((hsI h 70 T).1 69) (v / 2) g = true from t1] at ms
        conv => whnf
        refine Exists.intro (_, _) (And.intro (ia_callE (ms)) ?_)
        conv => whnf
        refine And.intro (fun c => ?_) (fun c => ?_)
        · exact absurd c (by decide)
        · conv => whnf
          exact hX _ (fin)
      | succ k2 ih2 =>
        intro s hs
        refine ia_walk (fun pc => Nat.beq pc 35) 60 (fun X hX => ?_)
        have ms := m_isStep (hsI h 70 T) n G sd A B hd0 s g (by omega) hgG
        rw [show isSt sd A B ((hsI h 70 T).1 69) s g = false from t2 s (by omega)] at ms
        conv => whnf
        refine Exists.intro (_, _) (And.intro (ia_callE (ms)) ?_)
        conv => whnf
        refine And.intro (fun c => ?_) (fun c => ?_)
        · conv => whnf
          rw [nI_1]
          exact hX _ (ih2 (s + 1) (by omega))
        · exact absurd rfl c
    refine ia_walk (fun pc => Nat.beq pc 35) 60 (fun X hX => ?_)
    conv => whnf
    refine And.intro (fun c => ?_) (fun c => ?_)
    · exact absurd (nI_inj (by omega) (by omega) c) hno
    · conv => whnf
      exact hX _ (inner (v / 2) 0 (by omega))
end
section
/-! The reference's canGo and spreads -/
theorem nar1 : vp_nar .boolean 1 = 1 := by decide
theorem nar0 : vp_nar .boolean 0 = 0 := by decide
theorem rmF_even (fl : Nat → Int32) (s : Nat) : rmF fl (2 * s) = decide (fl s < 1) := by
  unfold rmF
  rw [if_pos (by omega), show 2 * s / 2 = s by omega]
theorem rmF_odd (fl : Nat → Int32) (s : Nat) : rmF fl (2 * s + 1) = decide (-1 < fl s) := by
  unfold rmF
  rw [if_neg (by omega), show (2 * s + 1) / 2 = s by omega]
def cgF (sd : Nat → Bool) (A B : Nat → Nat) (fl : Nat → Int32) (s g : Nat) : Bool := sd s && (bif decide (A s = g) then rmF fl (2 * s) else (decide (B s = g) && rmF fl (2 * s + 1)))
theorem m_canGo (h : ia_H) (n G : Nat) (sd : Nat → Bool) (A B : Nat → Nat) (hd : mdOk h n G sd A B) (s g : Nat) (hs : s < n) (hg : g < G) : V_ 154 [.ref 52, .int (nI s), .int (nI g)] h (Z_ (.int (bif cgF sd A B (h.1 72) s g then 1 else 0)) h) := by
  obtain ⟨hn, hG, eN, eG, hS, hsd⟩ := hd
  obtain ⟨s1, s2, s3, s4, s5, s6⟩ := hS s hs
  refine ia_V_in ia_k_X8_canGo [some (.ref 52), some (.int (nI s)), some (.int (nI g))] rfl rfl (Nat.le_of_ble_eq_true rfl) rfl ?_
  refine ia_walk (fun _ => false) 90 (fun X hX => ?_)
  conv => whnf
  obtain ⟨x, ex, ev⟩ := ia_callN (f := Value.int) (m_isStanding h s (by omega))
  refine Exists.intro (_, _) (And.intro ev ?_)
  have ex : x = bif sd s then 1 else 0 := by rw [ex, s6]
  conv => whnf
  refine And.intro (fun c1 => ?_) (fun c1 => ?_)
  · have hsf : sd s = false := by
      cases hq : sd s
      · rfl
      · rw [hq] at ex; rw [ex] at c1; exact absurd c1 (by decide)
    conv => whnf
    exact ⟨Or.inl rfl, by simp only [cgF, hsf, Bool.false_and]; rfl, rfl⟩
  · have hst : sd s = true := by
      cases hq : sd s
      · rw [hq] at ex; exact absurd ex c1
      · rfl
    conv => whnf
    refine Exists.intro _ (And.intro (And.intro rfl (by omega)) ?_)
    conv => whnf
    refine And.intro (fun c2 => ?_) (fun c2 => ?_)
    · have hA : A s = g := nI_inj (by omega) (by omega) (s1.symm.trans c2)
      conv => whnf
      refine Exists.intro _ (And.intro (And.intro rfl (by omega)) ?_)
      conv => whnf
      refine And.intro (fun c3 => ?_) (fun c3 => ?_)
      · conv => whnf
        exact ⟨Or.inr rfl, by simp only [cgF, hst, decide_eq_true hA, rmF_even, decide_eq_true (show h.1 72 s < 1 from c3), Bool.true_and, cond_true], rfl⟩
      · conv => whnf
        exact ⟨Or.inl rfl, by simp only [cgF, hst, decide_eq_true hA, rmF_even, decide_eq_false (show ¬ h.1 72 s < 1 from c3), Bool.true_and, cond_true]; rfl, rfl⟩
    · have hA : ¬ A s = g := fun q => c2 (by show h.1 56 s = nI g; rw [s1, q])
      conv => whnf
      refine Exists.intro _ (And.intro (And.intro rfl (by omega)) ?_)
      conv => whnf
      refine And.intro (fun c3 => ?_) (fun c3 => ?_)
      · have hB : B s = g := nI_inj (by omega) (by omega) (s3.symm.trans c3)
        conv => whnf
        refine Exists.intro _ (And.intro (And.intro rfl (by omega)) ?_)
        conv => whnf
        refine And.intro (fun c4 => ?_) (fun c4 => ?_)
        · conv => whnf
          exact ⟨Or.inr rfl, by simp only [cgF, hst, decide_eq_false hA, decide_eq_true hB, rmF_odd, decide_eq_true (show -1 < h.1 72 s from c4), Bool.true_and, cond_false, cond_true], rfl⟩
        · conv => whnf
          exact ⟨Or.inl rfl, by simp only [cgF, hst, decide_eq_false hA, decide_eq_true hB, rmF_odd, decide_eq_false (show ¬ -1 < h.1 72 s from c4), Bool.true_and, cond_false], rfl⟩
      · have hB : ¬ B s = g := fun q => c3 (by show h.1 57 s = nI g; rw [s3, q])
        conv => whnf
        exact ⟨Or.inl rfl, by simp only [cgF, hst, decide_eq_false hA, decide_eq_false hB, Bool.false_and, Bool.true_and, cond_false], rfl⟩
/-- the heap with isReached, queue, cameBy put in -/
def hC (h : ia_H) (I Q C : Nat → Int32) : ia_H := hsI (hsI (hsI h 66 I) 67 Q) 73 C
theorem hC_66 (h : ia_H) (I Q C I2 : Nat → Int32) : hsI (hC h I Q C) 66 I2 = hC h I2 Q C := by
  unfold hC
  rw [hsI_comm _ (by decide : (73 : Nat) ≠ 66), hsI_comm _ (by decide : (67 : Nat) ≠ 66), hsI_same]
theorem hC_67 (h : ia_H) (I Q C Q2 : Nat → Int32) : hsI (hC h I Q C) 67 Q2 = hC h I Q2 C := by
  unfold hC
  rw [hsI_comm _ (by decide : (73 : Nat) ≠ 67), hsI_same]
theorem hC_73 (h : ia_H) (I Q C C2 : Nat → Int32) : hsI (hC h I Q C) 73 C2 = hC h I Q C2 := hsI_same _ _ _ _
/-- isReached says what is reached -/
def irOk (G : Nat) (I : Nat → Int32) (q : List Nat) : Prop := ∀ g, g < G → (g ∈ q → I g = 1) ∧ (¬ g ∈ q → I g = 0)
theorem irOk_put {G : Nat} {I : Nat → Int32} {q : List Nat} (h : irOk G I q) (t : Nat) : irOk G (upd I t 1) (q ++ [t]) := by
  intro g hg
  simp only [upd]
  by_cases e : g = t
  · subst e
    rw [if_pos rfl]
    exact ⟨fun _ => rfl, fun z => absurd (List.mem_append_right _ (List.mem_singleton.mpr rfl)) z⟩
  · rw [if_neg e]
    refine ⟨fun z => (h g hg).1 ?_, fun z => (h g hg).2 (fun y => z (List.mem_append_left _ y))⟩
    rcases List.mem_append.mp z with y | y
    · exact y
    · exact absurd (List.mem_singleton.mp y) e
/-- cameBy says by which statement -/
def cbOk (C b : Nat → Int32) (q : List Nat) : Prop := ∀ g, g ∈ q → ∀ w, w < 240 → b g = nI w → C g = nI (w / 2)
theorem cbOk_put {C b : Nat → Int32} {q : List Nat} (h : cbOk C b q) {t w : Nat} (hw : w < 240) (ht : ¬ t ∈ q) : cbOk (upd C t (nI (w / 2))) (upd b t (nI w)) (q ++ [t]) := by
  intro g hg v hv e
  simp only [upd] at e ⊢
  by_cases eg : g = t
  · rw [if_pos eg] at e ⊢
    rw [nI_inj (by omega) (by omega) e]
  · rw [if_neg eg] at e ⊢
    rcases List.mem_append.mp hg with y | y
    · exact h g y v hv e
    · exact absurd (List.mem_singleton.mp y) eg
theorem l_spr1 (h : ia_H) (n G : Nat) (sd : Nat → Bool) (A B : Nat → Nat) (hd : mdOk h n G sd A B) (e0 : Int32) (i a : Nat) (S0 : bsT) (h0 : bsOk G S0) (hi : i < S0.1.length) (ha : S0.1[i] = a) {Z : Option Value → ia_H → Prop}
    (hN : ∀ (I Q C : Nat → Int32) (a4 a5 : Option Value), irOk G I (bsW (cst sd) (csr A B) (cdt A B) (rmF (h.1 72)) a S0 240).1 → rwOk Q (bsW (cst sd) (csr A B) (cdt A B) (rmF (h.1 72)) a S0 240).1 → cbOk C (bsW (cst sd) (csr A B) (cdt A B) (rmF (h.1 72)) a S0 240).2.2 (bsW (cst sd) (csr A B) (cdt A B) (rmF (h.1 72)) a S0 240).1 → R_ ia_k_X8_spreads Z (158, [some (.ref 52), some (.int e0), some (.int (nI (bsW (cst sd) (csr A B) (cdt A B) (rmF (h.1 72)) a S0 240).1.length)), some (.int (nI i)), a4, a5], [], hC h I Q C)) :
    ∀ (k s : Nat), s + k = n → ∀ (S : bsT), S = bsW (cst sd) (csr A B) (cdt A B) (rmF (h.1 72)) a S0 (2 * s) → ∀ (I Q C : Nat → Int32) (a5 : Option Value), irOk G I S.1 → rwOk Q S.1 → cbOk C S.2.2 S.1 → R_ ia_k_X8_spreads Z (49, [some (.ref 52), some (.int e0), some (.int (nI S.1.length)), some (.int (nI i)), some (.int (nI s)), a5], [], hC h I Q C) := by
  have hd0 := hd
  obtain ⟨hn, hG, eN, eG, hS, hsd⟩ := hd
  have haS : a ∈ S0.1 := by rw [← ha]; exact List.getElem_mem hi
  have haG := (h0.2.1 a haS).1
  have hdt : ∀ w, w < 240 → cst sd w = true → cdt A B w < G := by
    intro w hw hs
    have h1 : w / 2 < n := by
      rcases Nat.lt_or_ge (w / 2) n with q | q
      · exact q
      · have : sd (w / 2) = true := hs
        rw [hsd _ q] at this; cases this
    obtain ⟨-, q2, -, q4, -⟩ := hS _ h1
    unfold cdt
    split
    · exact q4
    · exact q2
  intro k
  induction k with
  | zero =>
    intro s hs S eS I Q C a5 hI hQ hC0
    have es : s = n := by omega
    subst es
    rw [← bsW_end hn hsd] at eS
    refine ia_walk (fun pc => Nat.beq pc 158) 50 (fun X hX => ?_)
    conv => whnf
    refine And.intro (fun c => ?_) (fun c => ?_)
    · exact absurd (show nI s < h.1 52 10 from c) (by rw [eN]; exact nI_nlt (Nat.le_refl _) (by omega))
    · conv => whnf
      rw [eS] at hI hQ hC0 ⊢
      exact hX _ (hN I Q C _ _ hI hQ hC0)
  | succ k ih =>
    intro s hs S eS I Q C a5 hI hQ hC0
    have hlt : s < n := by omega
    obtain ⟨s1, s2, s3, s4, s5, s6⟩ := hS s hlt
    obtain ⟨okS, aS⟩ := bsW_ok (st := cst sd) (sr := csr A B) (rm := rmF (h.1 72)) hdt h0 haS (2 * s) (by omega)
    rw [← eS] at okS aS
    have lenS := bsOk_len okS
    have hlS : S0.1.length ≤ S.1.length := by rw [eS]; exact bsW_len _
    have eQ : Q i = nI a := by
      obtain ⟨l, el⟩ := bsW_pre (cst sd) (csr A B) (cdt A B) (rmF (h.1 72)) a S0 (2 * s)
      rw [hQ i (by omega)]
      have e1 : S.1[i]'(by omega) = a := by
        have : S.1[i]? = some a := by
          rw [eS, el, List.getElem?_append_left hi, List.getElem?_eq_getElem hi, ha]
        obtain ⟨_, q⟩ := List.getElem?_eq_some_iff.mp this
        exact q
      rw [e1]
    have b2 := bsW_2 (rm := rmF (h.1 72)) (a := a) (S := S0) (sd := sd) s5
    rw [← eS] at b2
    obtain ⟨ev1, ev2, ev3⟩ := c_even sd A B s
    obtain ⟨od1, od2, od3⟩ := c_odd sd A B s
    have next : ∀ (S2 : bsT) (I2 Q2 C2 : Nat → Int32) (a5 : Option Value), S2 = bsW (cst sd) (csr A B) (cdt A B) (rmF (h.1 72)) a S0 (2 * (s + 1)) → irOk G I2 S2.1 → rwOk Q2 S2.1 → cbOk C2 S2.2.2 S2.1 → R_ ia_k_X8_spreads Z (152, [some (.ref 52), some (.int e0), some (.int (nI S2.1.length)), some (.int (nI i)), some (.int (nI s)), a5], [], hC h I2 Q2 C2) := by
      intro S2 I2 Q2 C2 a5 h2 hI2 hQ2 hC2
      refine ia_walk (fun pc => Nat.beq pc 49) 50 (fun X hX => ?_)
      conv => whnf
      rw [nI_1]
      exact hX _ (ih (s + 1) (by omega) S2 h2 I2 Q2 C2 a5 hI2 hQ2 hC2)
    have go : ∀ (t w : Nat), t < G → w < 240 → w / 2 = s → cdt A B w = t → rmF (h.1 72) w = true → bsW (cst sd) (csr A B) (cdt A B) (rmF (h.1 72)) a S0 (2 * (s + 1)) = bsS (rmF (h.1 72)) (cdt A B) a S w → R_ ia_k_X8_spreads Z (109, [some (.ref 52), some (.int e0), some (.int (nI S.1.length)), some (.int (nI i)), some (.int (nI s)), a5], [.int (nI t)], hC h I Q C) := by
      intro t w ht hw240 hw2 hw hrm eW
      refine ia_walk (fun pc => Nat.beq pc 152) 60 (fun X hX => ?_)
      conv => whnf
      refine Exists.intro _ (And.intro (And.intro rfl (by omega)) ?_)
      conv => whnf
      refine And.intro (fun c1 => ?_) (fun c1 => ?_)
      · have hni : ¬ t ∈ S.1 := fun q => by
          have := (hI t ht).1 q
          rw [show I t = 0 from c1] at this
          exact absurd this (by decide)
        have hcl : S.1.length < 41 := by
          have := bsOk_len (bsOk_put (w := nI w) okS aS hni ht)
          simp only [List.length_append, List.length_cons, List.length_nil] at this
          omega
        conv => whnf
        refine Exists.intro _ (And.intro (And.intro rfl (by omega)) ?_)
        conv => whnf
        refine Exists.intro _ (And.intro (And.intro rfl (by omega)) ?_)
        conv => whnf
        refine Exists.intro _ (And.intro (And.intro rfl (by omega)) ?_)
        conv => whnf
        rw [nI_1]
        have e3 : bsS (rmF (h.1 72)) (cdt A B) a S w = (S.1 ++ [t], upd S.2.1 t (S.2.1 a + 1), upd S.2.2 t (nI w)) := by
          unfold bsS
          rw [hw, if_neg (fun q => q.elim hni (fun z => by rw [hrm] at z; cases z))]
        have hX2 := next (S.1 ++ [t], upd S.2.1 t (S.2.1 a + 1), upd S.2.2 t (nI w)) (upd I t 1) (upd Q S.1.length (nI t)) (upd C t (nI s)) (some (.int (nI t))) (by rw [eW, e3]) (irOk_put hI t) (rwOk_put hQ t) (by rw [← hw2]; exact cbOk_put hC0 hw240 hni)
        simp only [List.length_append, List.length_cons, List.length_nil] at hX2
        have e5 : hsI (hsI (hsI (hC h I Q C) 66 (upd I t (vp_nar .boolean 1))) 73 (upd C t (nI s))) 67 (upd Q S.1.length (nI t)) = hC h (upd I t 1) (upd Q S.1.length (nI t)) (upd C t (nI s)) := by rw [nar1, hC_66, hC_73, hC_67]
        exact hX _ (e5 ▸ hX2 : ia_Run _ _ _ _ (152, _, _, hsI (hsI (hsI (hC h I Q C) 66 (upd I t (vp_nar .boolean 1))) 73 (upd C t (nI s))) 67 (upd Q S.1.length (nI t))))
      · have hin : t ∈ S.1 := Classical.not_not.mp (fun q => c1 ((hI t ht).2 q))
        conv => whnf
        refine hX _ (next S I Q C _ ?_ hI hQ hC0)
        rw [eW]
        unfold bsS
        rw [hw, if_pos (Or.inl hin)]
    refine ia_walk (fun pc => Nat.beq pc 109 || Nat.beq pc 152) 80 (fun X hX => ?_)
    conv => whnf
    refine And.intro (fun c => ?_) (fun c => ?_)
    · conv => whnf
      refine Exists.intro _ (And.intro (And.intro rfl (by omega)) ?_)
      conv => whnf
      obtain ⟨x, ex, ev⟩ := ia_callN (f := Value.int) (m_canGo (hC h I Q C) n G sd A B hd0 s a hlt haG)
      rw [← eQ] at ev
      refine Exists.intro (_, _) (And.intro ev ?_)
      have ex : x = bif cgF sd A B (h.1 72) s a then 1 else 0 := ex
      conv => whnf
      refine And.intro (fun c1 => ?_) (fun c1 => ?_)
      · have hf : cgF sd A B (h.1 72) s a = false := by
          cases hq : cgF sd A B (h.1 72) s a
          · rfl
          · rw [hq] at ex; rw [ex] at c1; exact absurd c1 (by decide)
        conv => whnf
        refine hX _ (next S I Q C _ ?_ hI hQ hC0)
        rw [b2]
        unfold cgF at hf
        by_cases hst : sd s = true
        · rw [if_pos hst]
          rw [hst, Bool.true_and] at hf
          by_cases hA : A s = a
          · rw [if_pos hA]
            rw [decide_eq_true hA, cond_true] at hf
            unfold bsS
            rw [if_pos (Or.inr hf)]
          · rw [if_neg hA]
            rw [decide_eq_false hA, cond_false] at hf
            by_cases hB : B s = a
            · rw [if_pos hB]
              rw [decide_eq_true hB, Bool.true_and] at hf
              unfold bsS
              rw [if_pos (Or.inr hf)]
            · rw [if_neg hB]
        · rw [if_neg hst]
      · have hf : cgF sd A B (h.1 72) s a = true := by
          cases hq : cgF sd A B (h.1 72) s a
          · rw [hq] at ex; exact absurd ex c1
          · rfl
        unfold cgF at hf
        rw [Bool.and_eq_true] at hf
        obtain ⟨hst, hf⟩ := hf
        rw [if_pos hst] at b2
        conv => whnf
        refine Exists.intro _ (And.intro (And.intro rfl (by omega)) ?_)
        conv => whnf
        refine Exists.intro _ (And.intro (And.intro rfl (by omega)) ?_)
        conv => whnf
        refine And.intro (fun c2 => ?_) (fun c2 => ?_)
        · have hA : A s = a := nI_inj (by omega) (by omega) (s1.symm.trans ((show h.1 56 s = Q i from c2).trans eQ))
          rw [if_pos hA] at b2
          rw [decide_eq_true hA, cond_true] at hf
          conv => whnf
          refine Exists.intro _ (And.intro (And.intro rfl (by omega)) ?_)
          conv => whnf
          have g := go (B s) (2 * s) s4 (by omega) (by omega) ev3 hf b2
          rw [← s3] at g
          exact hX _ g
        · have hA : ¬ A s = a := fun q => c2 (show h.1 56 s = Q i by rw [s1, eQ, q])
          rw [if_neg hA] at b2
          rw [decide_eq_false hA, cond_false, Bool.and_eq_true] at hf
          have hB : B s = a := of_decide_eq_true hf.1
          rw [if_pos hB] at b2
          conv => whnf
          refine Exists.intro _ (And.intro (And.intro rfl (by omega)) ?_)
          conv => whnf
          have g := go (A s) (2 * s + 1) s2 (by omega) (by omega) od3 hf.2 b2
          rw [← s1] at g
          exact hX _ g
    · exact absurd (show nI s < h.1 52 10 by rw [eN]; exact nI_lt hlt (by omega)) c
end
section
/-! spreads whole -/
theorem md_dt {h : ia_H} {n G : Nat} {sd : Nat → Bool} {A B : Nat → Nat} (hd : mdOk h n G sd A B) : ∀ w, w < 240 → cst sd w = true → cdt A B w < G ∧ csr A B w < G ∧ w / 2 < n := by
  obtain ⟨hn, hG, eN, eG, hS, hsd⟩ := hd
  intro w hw hs
  have h1 : w / 2 < n := by
    rcases Nat.lt_or_ge (w / 2) n with q | q
    · exact q
    · have : sd (w / 2) = true := hs
      rw [hsd _ q] at this; cases this
  obtain ⟨-, q2, -, q4, -⟩ := hS _ h1
  refine ⟨?_, ?_, h1⟩
  · unfold cdt
    split
    · exact q4
    · exact q2
  · unfold csr
    split
    · exact q2
    · exact q4
theorem l_spr2 (h : ia_H) (n G : Nat) (sd : Nat → Bool) (A B : Nat → Nat) (hd : mdOk h n G sd A B) (e0 : Int32) {Z : Option Value → ia_H → Prop} : ∀ (k i : Nat) (S : bsT), 41 < i + k → i ≤ S.1.length → bsOk G S → (∀ I Q C, irOk G I (bsR (cst sd) (csr A B) (cdt A B) (rmF (h.1 72)) k i S).1 → rwOk Q (bsR (cst sd) (csr A B) (cdt A B) (rmF (h.1 72)) k i S).1 → cbOk C (bsR (cst sd) (csr A B) (cdt A B) (rmF (h.1 72)) k i S).2.2 (bsR (cst sd) (csr A B) (cdt A B) (rmF (h.1 72)) k i S).1 → Z none (hC h I Q C)) → ∀ (I Q C : Nat → Int32) (a4 a5 : Option Value), irOk G I S.1 → rwOk Q S.1 → cbOk C S.2.2 S.1 → R_ ia_k_X8_spreads Z (41, [some (.ref 52), some (.int e0), some (.int (nI S.1.length)), some (.int (nI i)), a4, a5], [], hC h I Q C) := by
  have hG := hd.2.1
  have hdt := fun w h1 h2 => (md_dt hd w h1 h2).1
  intro k
  induction k with
  | zero =>
    intro i S hk hi hok
    have := bsOk_len hok
    omega
  | succ k ih =>
    intro i S hk hi hok hZ I Q C a4 a5 hI hQ hC0
    have lenS := bsOk_len hok
    have hn := hd.1
    by_cases hlt : i < S.1.length
    · have ha : S.1[i] ∈ S.1 := List.getElem_mem hlt
      rw [bsR, dif_pos hlt] at hZ
      obtain ⟨a, hae⟩ : ∃ a, S.1[i] = a := ⟨_, rfl⟩
      rw [hae] at ha hZ
      obtain ⟨ok2, -⟩ := bsW_ok (st := cst sd) (sr := csr A B) (rm := rmF (h.1 72)) hdt hok ha 240 (Nat.le_refl _)
      refine ia_walk (fun pc => Nat.beq pc 49) 80 (fun X hX => ?_)
      conv => whnf
      refine And.intro (fun c => ?_) (fun c => ?_)
      · have l1 := l_spr1 h n G sd A B hd e0 i a S hok hlt hae (Z := Z) (fun I2 Q2 C2 b4 b5 hI2 hQ2 hC2 => by
          refine ia_walk (fun pc => Nat.beq pc 41) 50 (fun X hX => ?_)
          conv => whnf
          rw [nI_1]
          exact hX _ (ih (i + 1) _ (by omega) (Nat.le_trans (by omega) (bsW_len 240)) ok2 hZ I2 Q2 C2 _ _ hI2 hQ2 hC2)) n 0 (by omega) S rfl I Q C a5 hI hQ hC0
        conv => whnf
        exact hX _ (l1)
      · exact absurd (nI_lt hlt (by omega)) c
    · rw [bsR, dif_neg hlt] at hZ
      refine ia_walk (fun pc => Nat.beq pc 41) 80 (fun X hX => ?_)
      conv => whnf
      refine And.intro (fun c => ?_) (fun c => ?_)
      · exact absurd c (nI_nlt (by omega) (by omega))
      · conv => whnf
        exact hZ I Q C hI hQ hC0
theorem l_spr0 (h : ia_H) (G : Nat) (hG : G ≤ 41) (eG : h.1 52 4 = nI G) (e : Int32) {Z : Option Value → ia_H → Prop} (hN : ∀ w : Option Value, R_ ia_k_X8_spreads Z (23, [some (.ref 52), some (.int e), w, none, none, none], [], hsI h 66 (flF (h.1 66) G 0))) : ∀ k g : Nat, g + k = G → R_ ia_k_X8_spreads Z (2, [some (.ref 52), some (.int e), some (.int (nI g)), none, none, none], [], hsI h 66 (flF (h.1 66) g 0)) := by
  intro k
  induction k with
  | zero =>
    intro g hg
    have eg : g = G := by omega
    subst eg
    refine ia_walk (fun pc => Nat.beq pc 23) 50 (fun X hX => ?_)
    conv => whnf
    refine And.intro (fun c => ?_) (fun c => ?_)
    · exact absurd (show nI g < h.1 52 4 from c) (by rw [eG]; exact nI_nlt (Nat.le_refl g) (by omega))
    · conv => whnf
      exact hX _ (hN _)
  | succ k ih =>
    intro g hg
    refine ia_walk (fun pc => Nat.beq pc 2) 50 (fun X hX => ?_)
    conv => whnf
    refine And.intro (fun c => ?_) (fun c => ?_)
    · conv => whnf
      refine Exists.intro _ (And.intro (And.intro rfl (by omega)) ?_)
      conv => whnf
      rw [nI_1]
      have e : hsI (hsI h 66 (flF (h.1 66) g 0)) 66 (upd (flF (h.1 66) g 0) g (vp_nar .boolean 0)) = hsI h 66 (flF (h.1 66) (g + 1) 0) := by rw [nar0, hsI_same, flF_s]
      exact hX _ (e ▸ ih (g + 1) (by omega) : ia_Run _ _ _ _ (2, _, _, hsI (hsI h 66 (flF (h.1 66) g 0)) 66 (upd (flF (h.1 66) g 0) g (vp_nar .boolean 0))))
    · exact absurd (show nI g < h.1 52 4 by rw [eG]; exact nI_lt (by omega) (by omega)) c
theorem v_spreads (h : ia_H) (n G : Nat) (sd : Nat → Bool) (A B : Nat → Nat) (hd : mdOk h n G sd A B) (e : Nat) (he : e < G) : V_ 155 [.ref 52, .int (nI e)] h (fun r h' => r = none ∧ ∃ I Q C, irOk G I (bsF (cst sd) (csr A B) (cdt A B) (rmF (h.1 72)) e bs0).1 ∧ cbOk C (bsF (cst sd) (csr A B) (cdt A B) (rmF (h.1 72)) e bs0).2.2 (bsF (cst sd) (csr A B) (cdt A B) (rmF (h.1 72)) e bs0).1 ∧ h' = hC h I Q C) := by
  have hG := hd.2.1
  have eG := hd.2.2.2.1
  refine ia_V_in ia_k_X8_spreads [some (.ref 52), some (.int (nI e)), none, none, none, none] rfl rfl (Nat.le_of_ble_eq_true rfl) rfl ?_
  refine ia_walk (fun pc => Nat.beq pc 2) 50 (fun X hX => ?_)
  conv => whnf
  have l0 := l_spr0 h G hG eG (nI e) (Z := fun r h' => r = none ∧ ∃ I Q C, irOk G I (bsF (cst sd) (csr A B) (cdt A B) (rmF (h.1 72)) e bs0).1 ∧ cbOk C (bsF (cst sd) (csr A B) (cdt A B) (rmF (h.1 72)) e bs0).2.2 (bsF (cst sd) (csr A B) (cdt A B) (rmF (h.1 72)) e bs0).1 ∧ h' = hC h I Q C) (fun w => by
    refine ia_walk (fun pc => Nat.beq pc 41) 50 (fun X hX => ?_)
    conv => whnf
    refine Exists.intro _ (And.intro (And.intro rfl (by omega)) ?_)
    conv => whnf
    refine Exists.intro (0) (And.intro (And.intro (rfl) (by omega)) ?_)
    conv => whnf
    have l2 := l_spr2 h n G sd A B hd (nI e) (Z := fun r h' => r = none ∧ ∃ I Q C, irOk G I (bsF (cst sd) (csr A B) (cdt A B) (rmF (h.1 72)) e bs0).1 ∧ cbOk C (bsF (cst sd) (csr A B) (cdt A B) (rmF (h.1 72)) e bs0).2.2 (bsF (cst sd) (csr A B) (cdt A B) (rmF (h.1 72)) e bs0).1 ∧ h' = hC h I Q C) 42 0 (bsP e bs0) (by omega) (by omega) (bsP_ok (bs0_ok G) he (by simp [bs0])) (fun I Q C h1 h2 h3 => ⟨rfl, I, Q, C, h1, h3, rfl⟩) (upd (flF (h.1 66) G 0) e 1) (upd (h.1 67) 0 (nI e)) (h.1 73) none none (irOk_put (I := flF (h.1 66) G 0) (q := []) (fun g hg => ⟨fun z => absurd z List.not_mem_nil, fun _ => if_pos hg⟩) e) (rwOk_put (R := h.1 67) (q := []) (fun i hi => absurd hi (Nat.not_lt_zero i)) e) (fun g hg v hv q => by
      have hge : g = e := List.mem_singleton.mp hg
      subst hge
      exact absurd ((show upd bs0.2.2 g (-1) g = -1 from if_pos rfl).symm.trans q) (fun z => nI_nm1 (by omega) z.symm))
    have e5 : hsI (hsI (hsI h 66 (flF (h.1 66) G 0)) 66 (upd (flF (h.1 66) G 0) e (vp_nar .boolean 1))) 67 (upd (h.1 67) 0 (nI e)) = hC h (upd (flF (h.1 66) G 0) e 1) (upd (h.1 67) 0 (nI e)) (h.1 73) := by
      rw [nar1, hsI_same]
      exact (hsI_eta (hsI (hsI h 66 (upd (flF (h.1 66) G 0) e 1)) 67 (upd (h.1 67) 0 (nI e))) 73).symm
    exact hX _ (e5 ▸ l2 : ia_Run _ _ _ _ (41, _, _, hsI (hsI (hsI h 66 (flF (h.1 66) G 0)) 66 (upd (flF (h.1 66) G 0) e (vp_nar .boolean 1))) 67 (upd (h.1 67) 0 (nI e))))) G 0 (by omega)
  rw [flF_0, hsI_eta] at l0
  exact hX _ l0
end
section
/-! Paths that are laid: flowAlong, laysPath -/
def flU (fl : Nat → Int32) (w : Nat) : Nat → Int32 := upd fl (w / 2) (fl (w / 2) + (if w % 2 = 0 then 1 else -1))
def pfF (wy sr : Nat → Nat) : Nat → Nat → (Nat → Int32) → (Nat → Int32)
  | 0, _, fl => fl
  | k + 1, g, fl => pfF wy sr k (sr (wy g)) (flU fl (wy g))
/-- each that is reached: the root, or by the way wy -/
def ptOk (st : Nat → Bool) (sr dt : Nat → Nat) (rm : Nat → Bool) (S : bsT) (root : Nat) (wy : Nat → Nat) : Prop := ∀ g, g ∈ S.1 → (g = root ∧ S.2.2 g = -1 ∧ S.2.1 g = 0) ∨ (g ≠ root ∧ wy g < 240 ∧ st (wy g) = true ∧ rm (wy g) = true ∧ dt (wy g) = g ∧ S.2.2 g = nI (wy g) ∧ sr (wy g) ∈ S.1 ∧ S.2.1 g = S.2.1 (sr (wy g)) + 1)
/-- a root has no way -/
def bsU (rs : List Nat) (S : bsT) : Prop := ∀ g, g ∈ S.1 → S.2.2 g = -1 → g ∈ rs
theorem bsU_W {st : Nat → Bool} {sr dt : Nat → Nat} {rm : Nat → Bool} {rs : List Nat} {a : Nat} {S : bsT} (h : bsU rs S) : ∀ w, w ≤ 240 → bsU rs (bsW st sr dt rm a S w)
  | 0, _ => h
  | w + 1, hw => by
    have ih := bsU_W (st := st) (sr := sr) (dt := dt) (rm := rm) (a := a) h w (by omega)
    rw [bsW]
    by_cases hc : st w = true ∧ sr w = a
    · rw [if_pos hc]
      unfold bsS
      by_cases hq : dt w ∈ (bsW st sr dt rm a S w).1 ∨ rm w = false
      · rw [if_pos hq]; exact ih
      · rw [if_neg hq]
        intro g hg e
        have e : upd (bsW st sr dt rm a S w).2.2 (dt w) (nI w) g = -1 := e
        simp only [upd] at e
        by_cases eg : g = dt w
        · rw [if_pos eg] at e
          exact absurd e (nI_nm1 (by omega))
        · rw [if_neg eg] at e
          rcases List.mem_append.mp hg with y | y
          · exact ih g y e
          · exact absurd (List.mem_singleton.mp y) eg
    · rw [if_neg hc]; exact ih
theorem bsU_R {st : Nat → Bool} {sr dt : Nat → Nat} {rm : Nat → Bool} {rs : List Nat} : ∀ (k i : Nat) (S : bsT), bsU rs S → bsU rs (bsR st sr dt rm k i S)
  | 0, _, _, h => h
  | k + 1, i, S, h => by
    rw [bsR]
    by_cases hi : i < S.1.length
    · rw [dif_pos hi]; exact bsU_R k (i + 1) _ (bsU_W h 240 (Nat.le_refl _))
    · rw [dif_neg hi]; exact h
theorem bsU_P {rs : List Nat} {g : Nat} {S : bsT} (h : bsU rs S) (hn : ¬ g ∈ S.1) : bsU (g :: rs) (bsP g S) := by
  intro k hk e
  rcases List.mem_append.mp hk with y | y
  · have e : upd S.2.2 g (-1) k = -1 := e
    rw [show upd S.2.2 g (-1) k = S.2.2 k from if_neg (show ¬ k = g from fun z => hn (z ▸ y))] at e
    exact List.mem_cons_of_mem _ (h k y e)
  · rw [List.mem_singleton.mp y]; exact List.mem_cons_self
theorem pt_ex {st : Nat → Bool} {sr dt : Nat → Nat} {rm : Nat → Bool} {m : Nat} (hm : m ≤ 41) (hd : ∀ w, w < 240 → st w = true → dt w < m) {g : Nat} (hg : g < m) : ∃ wy, ptOk st sr dt rm (bsF st sr dt rm g bs0) g wy := by
  obtain ⟨-, -, -, hB⟩ := bsF_all (sr := sr) (rm := rm) hm hd hg
  have hU : bsU [g] (bsF st sr dt rm g bs0) := bsU_R _ _ _ (bsU_P (rs := []) (fun k hk => absurd hk List.not_mem_nil) List.not_mem_nil)
  have hR0 : (bsF st sr dt rm g bs0).2.2 g = -1 := by
    unfold bsF
    have key : ∀ (k i : Nat) (S : bsT), g ∈ S.1 → S.2.2 g = -1 → (bsR st sr dt rm k i S).2.2 g = -1 := by
      intro k
      induction k with
      | zero => intro i S _ h; exact h
      | succ k ih =>
        intro i S hg h
        rw [bsR]
        by_cases hi : i < S.1.length
        · rw [dif_pos hi]
          have kw : ∀ w, g ∈ (bsW st sr dt rm S.1[i] S w).1 ∧ (bsW st sr dt rm S.1[i] S w).2.2 g = -1 := by
            intro w
            induction w with
            | zero => exact ⟨hg, h⟩
            | succ w ihw =>
              rw [bsW]
              by_cases hc : st w = true ∧ sr w = S.1[i]
              · rw [if_pos hc]
                unfold bsS
                by_cases hq : dt w ∈ (bsW st sr dt rm S.1[i] S w).1 ∨ rm w = false
                · rw [if_pos hq]; exact ihw
                · rw [if_neg hq]
                  refine ⟨List.mem_append_left _ ihw.1, ?_⟩
                  show upd (bsW st sr dt rm S.1[i] S w).2.2 (dt w) (nI w) g = -1
                  rw [show upd (bsW st sr dt rm S.1[i] S w).2.2 (dt w) (nI w) g = (bsW st sr dt rm S.1[i] S w).2.2 g from if_neg (show ¬ g = dt w from fun z => hq (Or.inl (z ▸ ihw.1)))]
                  exact ihw.2
              · rw [if_neg hc]; exact ihw
          exact ih (i + 1) _ (kw 240).1 (kw 240).2
        · rw [dif_neg hi]; exact h
    exact key _ _ _ (List.mem_append_right _ (List.mem_singleton.mpr rfl)) (if_pos rfl)
  generalize bsF st sr dt rm g bs0 = S at hB hU hR0
  have H : ∀ k, ∃ w, k ∈ S.1 → (k = g ∧ S.2.2 k = -1 ∧ S.2.1 k = 0) ∨ (k ≠ g ∧ w < 240 ∧ st w = true ∧ rm w = true ∧ dt w = k ∧ S.2.2 k = nI w ∧ sr w ∈ S.1 ∧ S.2.1 k = S.2.1 (sr w) + 1) := by
    intro k
    by_cases hk : k ∈ S.1
    · rcases hB k hk with ⟨e1, e2⟩ | ⟨w, q⟩
      · exact ⟨0, fun _ => Or.inl ⟨List.mem_singleton.mp (hU k hk e1), e1, e2⟩⟩
      · refine ⟨w, fun _ => Or.inr ⟨fun e => ?_, q⟩⟩
        have := hR0
        rw [← e, q.2.2.2.2.1] at this
        exact absurd this (nI_nm1 (by have := q.1; omega))
    · exact ⟨0, fun z => absurd z hk⟩
  exact ⟨fun k => Classical.choose (H k), fun k hk => Classical.choose_spec (H k) hk⟩
theorem l_flowAlong (h : ia_H) (st : Nat → Bool) (sr dt : Nat → Nat) (rm : Nat → Bool) (S : bsT) (root : Nat) (wy : Nat → Nat) (m : Nat) (hm : m ≤ 41) (hok : bsOk m S) (hp : ptOk st sr dt rm S root wy) (hb : ∀ g, g ∈ S.1 → h.1 38 g = S.2.2 g) (hx : ∀ w, w < 240 → st w = true → h.1 30 (w ^^^ 1) = nI (sr w)) (e0 : Int32) {Z : Option Value → ia_H → Prop} : ∀ (k j g : Nat) (fl : Nat → Int32) (a4 : Option Value), g ∈ S.1 → S.2.1 g = nI k → j + k ≤ 40 → Z none (hsI h 39 (pfF wy sr k g fl)) → R_ ia_k_X6_flowAlong Z (4, [some (.ref 29), some (.int e0), some (.int (nI g)), some (.int (nI j)), a4], [], hsI h 39 fl) := by
  intro k
  induction k with
  | zero =>
    intro j g fl a4 hg hk hj hZ
    have hgm := (hok.2.1 g hg).1
    have e1 : h.1 38 g = -1 := by
      rw [hb g hg]
      rcases hp g hg with ⟨-, q, -⟩ | ⟨-, -, -, -, -, -, q6, q7⟩
      · exact q
      · obtain ⟨-, i, i1, i2⟩ := hok.2.1 _ q6
        have := bsOk_len hok
        rw [i2, hk, nI_1] at q7
        exact absurd (nI_inj (by omega) (by omega) q7) (by omega)
    refine ia_walk (fun pc => Nat.beq pc 4) 60 (fun X hX => ?_)
    conv => whnf
    refine And.intro (fun c => ?_) (fun c => ?_)
    · conv => whnf
      refine Exists.intro _ (And.intro (And.intro rfl (by omega)) ?_)
      conv => whnf
      refine And.intro (fun c1 => ?_) (fun c1 => ?_)
      · conv => whnf
        exact hZ
      · exact absurd e1 c1
    · exact absurd ((nI_lt41 (by omega)).mpr (by omega)) c
  | succ k ih =>
    intro j g fl a4 hg hk hj hZ
    have hgm := (hok.2.1 g hg).1
    have hlen := bsOk_len hok
    rcases hp g hg with ⟨-, -, q⟩ | ⟨hgr, w1, w2, w3, w4, w5, w6, w7⟩
    · rw [hk] at q
      exact absurd q (nI_ne0 (by omega) (by omega))
    · obtain ⟨-, i, i1, i2⟩ := hok.2.1 _ w6
      have eik : i = k := by
        rw [i2, hk, nI_1] at w7
        have := nI_inj (by omega) (by omega) w7
        omega
      subst eik
      have eb : h.1 38 g = nI (wy g) := by rw [hb g hg]; exact w5
      have e2 := shr1 _ w1
      have e1 := and1 _ w1
      obtain ⟨x1, x2⟩ := xor1 _ w1
      have hx1 := hx _ w1 w2
      have fin : ∀ z : Int32, z = fl (wy g / 2) + (if wy g % 2 = 0 then 1 else -1) → R_ ia_k_X6_flowAlong Z (51, [some (.ref 29), some (.int e0), some (.int (nI g)), some (.int (nI j)), some (.int (nI (wy g)))], [.int z, .int (nI (wy g) >>> ((1 : Int32) &&& 31)), .ref 39], hsI h 39 fl) := by
        intro z hz
        refine ia_walk (fun pc => Nat.beq pc 4) 60 (fun X hX => ?_)
        conv => whnf
        refine Exists.intro (wy g / 2) (And.intro (And.intro (e2) (by omega)) ?_)
        conv => whnf
        refine Exists.intro (wy g ^^^ 1) (And.intro (And.intro (x1) (x2)) ?_)
        conv => whnf
        rw [nI_1]
        have nx := ih (j + 1) (sr (wy g)) (flU fl (wy g)) (some (.int (nI (wy g)))) w6 i2 (by omega) hZ
        have e5 : hsI (hsI h 39 fl) 39 (upd fl (wy g / 2) z) = hsI h 39 (flU fl (wy g)) := by rw [hsI_same, hz]; rfl
        rw [← e5, ← hx1] at nx
        exact hX _ nx
      refine ia_walk (fun pc => Nat.beq pc 51) 60 (fun X hX => ?_)
      conv => whnf
      refine And.intro (fun c => ?_) (fun c => ?_)
      · conv => whnf
        refine Exists.intro _ (And.intro (And.intro rfl (by omega)) ?_)
        conv => whnf
        refine And.intro (fun c1 => ?_) (fun c1 => ?_)
        · exact absurd (eb.symm.trans c1) (nI_nm1 (by omega))
        · conv => whnf
          refine Exists.intro _ (And.intro (And.intro rfl (by omega)) ?_)
          conv => whnf
          rw [show (hsI h 39 fl).1 38 g = nI (wy g) from eb]
          refine Exists.intro (wy g / 2) (And.intro (And.intro e2 (by omega)) ?_)
          conv => whnf
          refine And.intro (fun c2 => ?_) (fun c2 => ?_)
          · conv => whnf
            exact hX _ (fin _ (by rw [if_pos (nI_inj (b := 0) (by omega) (by decide) (e1.symm.trans c2))]; rfl))
          · conv => whnf
            exact hX _ (fin _ (by rw [if_neg (fun q => c2 (by rw [e1, q]; rfl))]; rfl))
      · exact absurd ((nI_lt41 (by omega)).mpr (by omega)) c
theorem v_flowAlong (h : ia_H) (st : Nat → Bool) (sr dt : Nat → Nat) (rm : Nat → Bool) (S : bsT) (root : Nat) (wy : Nat → Nat) (m : Nat) (hm : m ≤ 41) (hok : bsOk m S) (hp : ptOk st sr dt rm S root wy) (hb : ∀ g, g ∈ S.1 → h.1 38 g = S.2.2 g) (hx : ∀ w, w < 240 → st w = true → h.1 30 (w ^^^ 1) = nI (sr w)) (g k : Nat) (hg : g ∈ S.1) (hk : S.2.1 g = nI k) (hk41 : k ≤ 40) : V_ 55 [.ref 29, .int (nI g)] h (fun r h' => r = none ∧ h' = hsI h 39 (pfF wy sr k g (h.1 39))) := by
  refine ia_V_in ia_k_X6_flowAlong [some (.ref 29), some (.int (nI g)), none, none, none] rfl rfl (Nat.le_of_ble_eq_true rfl) rfl ?_
  refine ia_walk (fun pc => Nat.beq pc 4) 60 (fun X hX => ?_)
  conv => whnf
  have l1 := l_flowAlong h st sr dt rm S root wy m hm hok hp hb hx (nI g) (Z := fun r h' => r = none ∧ h' = hsI h 39 (pfF wy sr k g (h.1 39))) k 0 g (h.1 39) none hg hk (by omega) ⟨rfl, rfl⟩
  rw [hsI_eta] at l1
  exact hX _ l1
theorem l_laysPath (h : ia_H) (n G : Nat) (sd : Nat → Bool) (A B : Nat → Nat) (hd : mdOk h n G sd A B) (rm : Nat → Bool) (S : bsT) (root : Nat) (hr : root < G) (wy : Nat → Nat) (hok : bsOk G S) (hp : ptOk (cst sd) (csr A B) (cdt A B) rm S root wy) (hc : cbOk (h.1 73) S.2.2 S.1) (e0 : Int32) {Z : Option Value → ia_H → Prop} : ∀ (k g : Nat) (fl : Nat → Int32) (a4 : Option Value), k ≤ 40 → g ∈ S.1 → S.2.1 g = nI k → Z none (hsI h 72 (pfF wy (csr A B) k g fl)) → R_ ia_k_X8_laysPath Z (2, [some (.ref 52), some (.int (nI root)), some (.int e0), some (.int (nI g)), a4], [], hsI h 72 fl) := by
  have hd0 := hd
  obtain ⟨hn, hG, eN, eG, hS, hsd⟩ := hd
  intro k
  induction k with
  | zero =>
    intro g fl a4 hk40 hg hk hZ
    have hgm := (hok.2.1 g hg).1
    have e1 : g = root := by
      rcases hp g hg with ⟨q, -, -⟩ | ⟨-, -, -, -, -, -, q6, q7⟩
      · exact q
      · obtain ⟨-, i, i1, i2⟩ := hok.2.1 _ q6
        have := bsOk_len hok
        rw [i2, hk, nI_1] at q7
        exact absurd (nI_inj (by omega) (by omega) q7) (by omega)
    refine ia_walk (fun pc => Nat.beq pc 2) 60 (fun X hX => ?_)
    conv => whnf
    refine And.intro (fun c => ?_) (fun c => ?_)
    · conv => whnf
      exact hZ
    · exact absurd (by rw [e1]) c
  | succ k ih =>
    intro g fl a4 hk40 hg hk hZ
    have hgm := (hok.2.1 g hg).1
    have hlen := bsOk_len hok
    rcases hp g hg with ⟨-, -, q⟩ | ⟨hgr, w1, w2, w3, w4, w5, w6, w7⟩
    · rw [hk] at q
      exact absurd q (nI_ne0 (by omega) (by omega))
    · obtain ⟨-, i, i1, i2⟩ := hok.2.1 _ w6
      have eik : i = k := by
        rw [i2, hk, nI_1] at w7
        have := nI_inj (by omega) (by omega) w7
        omega
      subst eik
      have eC : h.1 73 g = nI (wy g / 2) := hc g hg _ w1 w5
      obtain ⟨m1, m2, m3⟩ := md_dt hd0 _ w1 w2
      obtain ⟨s1, s2, s3, s4, s5, s6⟩ := hS _ m3
      refine ia_walk (fun pc => Nat.beq pc 2) 60 (fun X hX => ?_)
      conv => whnf
      refine And.intro (fun c => ?_) (fun c => ?_)
      · exact absurd (nI_inj (by omega) (by omega) c) hgr
      · conv => whnf
        refine Exists.intro _ (And.intro (And.intro rfl (by omega)) ?_)
        conv => whnf
        refine Exists.intro (wy g / 2) (And.intro (And.intro (eC) (by omega)) ?_)
        have hpar : (wy g % 2 = 0 ∧ B (wy g / 2) = g ∧ csr A B (wy g) = A (wy g / 2)) ∨ (¬ wy g % 2 = 0 ∧ A (wy g / 2) = g ∧ csr A B (wy g) = B (wy g / 2)) := by
          unfold cdt at w4
          unfold csr
          by_cases hp2 : wy g % 2 = 0
          · rw [if_pos hp2] at w4 ⊢; exact Or.inl ⟨hp2, w4, rfl⟩
          · rw [if_neg hp2] at w4 ⊢; exact Or.inr ⟨hp2, w4, rfl⟩
        conv => whnf
        refine And.intro (fun c1 => ?_) (fun c1 => ?_)
        · rcases hpar with ⟨p1, p2, p3⟩ | ⟨p1, p2, p3⟩
          · conv => whnf
            refine Exists.intro (wy g / 2) (And.intro (And.intro (eC) (by omega)) ?_)
            conv => whnf
            refine Exists.intro (wy g / 2) (And.intro (And.intro (eC) (by omega)) ?_)
            conv => whnf
            refine Exists.intro (wy g / 2) (And.intro (And.intro (eC) (by omega)) ?_)
            conv => whnf
            have nx := ih (csr A B (wy g)) (flU fl (wy g)) (some (.int (nI (wy g / 2)))) (by omega) w6 i2 hZ
            have e5 : hsI (hsI h 72 fl) 72 (upd fl (wy g / 2) (fl (wy g / 2) + 1)) = hsI h 72 (flU fl (wy g)) := by rw [hsI_same]; unfold flU; rw [if_pos p1]
            rw [← e5, p3, ← s1, ← eC] at nx
            exact hX _ nx
          · exact absurd (nI_inj (by omega) (by omega) (s3.symm.trans c1)) (fun q => s5 (p2.trans q.symm))
        · rcases hpar with ⟨p1, p2, p3⟩ | ⟨p1, p2, p3⟩
          · exact absurd (show h.1 57 (wy g / 2) = nI g by rw [s3, p2]) c1
          · conv => whnf
            refine Exists.intro (wy g / 2) (And.intro (And.intro (eC) (by omega)) ?_)
            conv => whnf
            refine Exists.intro (wy g / 2) (And.intro (And.intro (eC) (by omega)) ?_)
            conv => whnf
            refine Exists.intro (wy g / 2) (And.intro (And.intro (eC) (by omega)) ?_)
            conv => whnf
            have nx := ih (csr A B (wy g)) (flU fl (wy g)) (some (.int (nI (wy g / 2)))) (by omega) w6 i2 hZ
            have e5 : hsI (hsI h 72 fl) 72 (upd fl (wy g / 2) (fl (wy g / 2) - 1)) = hsI h 72 (flU fl (wy g)) := by rw [hsI_same]; unfold flU; rw [if_neg p1, Int32.sub_eq_add_neg]
            rw [← e5, p3, ← s3, ← eC] at nx
            exact hX _ nx
theorem v_laysPath (h : ia_H) (n G : Nat) (sd : Nat → Bool) (A B : Nat → Nat) (hd : mdOk h n G sd A B) (rm : Nat → Bool) (S : bsT) (root : Nat) (hr : root < G) (wy : Nat → Nat) (hok : bsOk G S) (hp : ptOk (cst sd) (csr A B) (cdt A B) rm S root wy) (hc : cbOk (h.1 73) S.2.2 S.1) (g k : Nat) (hg : g ∈ S.1) (hk : S.2.1 g = nI k) (hk40 : k ≤ 40) : V_ 156 [.ref 52, .int (nI root), .int (nI g)] h (fun r h' => r = none ∧ h' = hsI h 72 (pfF wy (csr A B) k g (h.1 72))) := by
  refine ia_V_in ia_k_X8_laysPath [some (.ref 52), some (.int (nI root)), some (.int (nI g)), none, none] rfl rfl (Nat.le_of_ble_eq_true rfl) rfl ?_
  refine ia_walk (fun pc => Nat.beq pc 2) 60 (fun X hX => ?_)
  conv => whnf
  have l1 := l_laysPath h n G sd A B hd rm S root hr wy hok hp hc (nI g) (Z := fun r h' => r = none ∧ h' = hsI h 72 (pfF wy (csr A B) k g (h.1 72))) k g (h.1 72) none hk40 hg hk ⟨rfl, rfl⟩
  rw [hsI_eta] at l1
  exact hX _ l1
end
section
/-! A path that is laid makes the flow from its root one more; it never passes how many statements stand -/
def smN (f : Nat → Int) : Nat → Int
  | 0 => 0
  | n + 1 => smN f n + f n
theorem smN_congr {f g : Nat → Int} : ∀ {n : Nat}, (∀ k, k < n → f k = g k) → smN f n = smN g n
  | 0, _ => rfl
  | n + 1, h => by rw [smN, smN, smN_congr (fun k hk => h k (by omega)), h n (by omega)]
theorem smN_one {f g : Nat → Int} {i : Nat} : ∀ {n : Nat}, i < n → (∀ k, k < n → k ≠ i → f k = g k) → smN f n = smN g n + (f i - g i)
  | 0, h, _ => absurd h (Nat.not_lt_zero i)
  | n + 1, h, hk => by
    rw [smN, smN]
    by_cases hi : i = n
    · subst hi
      rw [smN_congr (fun k hk2 => hk k (by omega) (by omega))]
      omega
    · rw [smN_one (n := n) (by omega) (fun k h1 h2 => hk k (by omega) h2), hk n (by omega) (fun q => hi q.symm)]
      omega
theorem smN_le {f : Nat → Int} {p : Nat → Bool} : ∀ {n : Nat}, (∀ k, k < n → f k ≤ if p k = true then 1 else 0) → smN f n ≤ ct p n
  | 0, _ => by simp [smN, ct]
  | n + 1, h => by
    have ih := smN_le (f := f) (p := p) (n := n) (fun k hk => h k (by omega))
    have hn := h n (by omega)
    rw [smN, ct]
    cases hp : p n
    · rw [hp] at hn
      simp at hn ⊢
      omega
    · rw [hp] at hn
      simp at hn ⊢
      omega
/-- flows are -1, 0, 1 -/
def flB (fl : Nat → Int32) : Prop := ∀ s, s < 120 → fl s = -1 ∨ fl s = 0 ∨ fl s = 1
/-- what a statement carries from the root -/
def flC (sd : Nat → Bool) (A B : Nat → Nat) (r : Nat) (fl : Nat → Int32) (s : Nat) : Int := if sd s = true then (if A s = r then (fl s).toInt else if B s = r then -(fl s).toInt else 0) else 0
def flN (sd : Nat → Bool) (A B : Nat → Nat) (r : Nat) (fl : Nat → Int32) : Int := smN (flC sd A B r fl) 120
theorem flN_le {sd : Nat → Bool} {A B : Nat → Nat} {r : Nat} {fl : Nat → Int32} (h : flB fl) : flN sd A B r fl ≤ ct sd 120 := by
  refine smN_le (fun k hk => ?_)
  unfold flC
  by_cases hs : sd k = true
  · rw [if_pos hs, if_pos hs]
    have e : (fl k).toInt = -1 ∨ (fl k).toInt = 0 ∨ (fl k).toInt = 1 := by
      rcases h k hk with q | q | q
      · rw [q]; exact Or.inl (by decide)
      · rw [q]; exact Or.inr (Or.inl (by decide))
      · rw [q]; exact Or.inr (Or.inr (by decide))
    split
    · omega
    · split <;> omega
  · rw [if_neg hs, if_neg hs]
    exact Int.le_refl 0
theorem ct_lt {p : Nat → Bool} {i : Nat} : ∀ {n : Nat}, i < n → p i = false → ct p n < n
  | 0, h, _ => absurd h (Nat.not_lt_zero i)
  | n + 1, h, hi => by
    by_cases e : i = n
    · subst e
      rw [ct_f hi]
      have := ct_le p i
      omega
    · have ih := ct_lt (p := p) (i := i) (n := n) (by omega) hi
      rw [ct]
      cases p n <;> simp <;> omega
theorem flU_at (fl : Nat → Int32) (w : Nat) : flU fl w (w / 2) = fl (w / 2) + (if w % 2 = 0 then 1 else -1) := if_pos rfl
theorem flU_ne {fl : Nat → Int32} {w s : Nat} (h : s ≠ w / 2) : flU fl w s = fl s := if_neg h
theorem flow_step {fl f : Nat → Int32} {w : Nat} (hb : flB fl) (hw : w < 240) (hr : rmF fl w = true) (hf : flB f) (e : f (w / 2) = fl (w / 2)) : flB (flU f w) ∧ (w % 2 = 0 → (flU f w (w / 2)).toInt = (f (w / 2)).toInt + 1) ∧ (¬ w % 2 = 0 → (flU f w (w / 2)).toInt = (f (w / 2)).toInt - 1) := by
  have hv := hb (w / 2) (by omega)
  unfold rmF at hr
  by_cases hp : w % 2 = 0
  · rw [if_pos hp] at hr
    have hr := of_decide_eq_true hr
    have key : flU f w (w / 2) = 0 ∧ f (w / 2) = -1 ∨ flU f w (w / 2) = 1 ∧ f (w / 2) = 0 := by
      rw [flU_at, if_pos hp, e]
      rcases hv with q | q | q
      · rw [q]; exact Or.inl ⟨by decide, rfl⟩
      · rw [q]; exact Or.inr ⟨by decide, rfl⟩
      · rw [q] at hr; exact absurd hr (by decide)
    refine ⟨fun s hs => ?_, fun _ => ?_, fun q => absurd hp q⟩
    · by_cases es : s = w / 2
      · rw [es]
        rcases key with ⟨q, -⟩ | ⟨q, -⟩
        · rw [q]; exact Or.inr (Or.inl rfl)
        · rw [q]; exact Or.inr (Or.inr rfl)
      · rw [flU_ne es]; exact hf s hs
    · rcases key with ⟨q, q2⟩ | ⟨q, q2⟩
      · rw [q, q2]; decide
      · rw [q, q2]; decide
  · rw [if_neg hp] at hr
    have hr := of_decide_eq_true hr
    have key : flU f w (w / 2) = -1 ∧ f (w / 2) = 0 ∨ flU f w (w / 2) = 0 ∧ f (w / 2) = 1 := by
      rw [flU_at, if_neg hp, e]
      rcases hv with q | q | q
      · rw [q] at hr; exact absurd hr (by decide)
      · rw [q]; exact Or.inl ⟨by decide, rfl⟩
      · rw [q]; exact Or.inr ⟨by decide, rfl⟩
    refine ⟨fun s hs => ?_, fun q => absurd q hp, fun _ => ?_⟩
    · by_cases es : s = w / 2
      · rw [es]
        rcases key with ⟨q, -⟩ | ⟨q, -⟩
        · rw [q]; exact Or.inl rfl
        · rw [q]; exact Or.inr (Or.inl rfl)
      · rw [flU_ne es]; exact hf s hs
    · rcases key with ⟨q, q2⟩ | ⟨q, q2⟩
      · rw [q, q2]; decide
      · rw [q, q2]; decide
/-- the two ends of a way are those of its statement -/
theorem c_ends (A B : Nat → Nat) (w : Nat) : (w % 2 = 0 ∧ csr A B w = A (w / 2) ∧ cdt A B w = B (w / 2)) ∨ (¬ w % 2 = 0 ∧ csr A B w = B (w / 2) ∧ cdt A B w = A (w / 2)) := by
  unfold csr cdt
  by_cases hp : w % 2 = 0
  · rw [if_pos hp, if_pos hp]; exact Or.inl ⟨hp, rfl, rfl⟩
  · rw [if_neg hp, if_neg hp]; exact Or.inr ⟨hp, rfl, rfl⟩
theorem flow_path {sd : Nat → Bool} {A B : Nat → Nat} {fl : Nat → Int32} {S : bsT} {r m : Nat} {wy : Nat → Nat} (hm : m ≤ 41) (hok : bsOk m S) (hp : ptOk (cst sd) (csr A B) (cdt A B) (rmF fl) S r wy) (hb : flB fl) (hab : ∀ s, s < 120 → A s ≠ B s) : ∀ (k g : Nat) (f : Nat → Int32), k ≤ 40 → g ∈ S.1 → S.2.1 g = nI k → flB f → (∀ g2 j, g2 ∈ S.1 → S.2.1 g2 = nI j → 1 ≤ j → j ≤ k → f (wy g2 / 2) = fl (wy g2 / 2)) → flB (pfF wy (csr A B) k g f) ∧ flN sd A B r (pfF wy (csr A B) k g f) = flN sd A B r f + (if k = 0 then 0 else 1) := by
  have hlen := bsOk_len hok
  have hroot : ∀ g, g ∈ S.1 → ∀ j, S.2.1 g = nI j → j ≤ 41 → (g = r ↔ j = 0) := by
    intro g hg j hj hj41
    rcases hp g hg with ⟨q1, -, q3⟩ | ⟨q1, -, -, -, -, -, q6, q7⟩
    · rw [hj] at q3
      have : j = 0 := nI_inj (b := 0) (by omega) (by decide) q3
      exact ⟨fun _ => this, fun _ => q1⟩
    · obtain ⟨-, i, i1, i2⟩ := hok.2.1 _ q6
      rw [i2, hj, nI_1] at q7
      have := nI_inj (by omega) (by omega) q7
      exact ⟨fun q => absurd q q1, fun q => by omega⟩
  intro k
  induction k with
  | zero =>
    intro g f _ _ _ hf _
    exact ⟨hf, by rw [if_pos rfl, Int.add_zero]; rfl⟩
  | succ k ih =>
    intro g f hk40 hg hk hf he
    rcases hp g hg with ⟨-, -, q⟩ | ⟨hgr, w1, w2, w3, w4, w5, w6, w7⟩
    · rw [hk] at q
      exact absurd q (nI_ne0 (by omega) (by omega))
    · obtain ⟨-, i, i1, i2⟩ := hok.2.1 _ w6
      have eik : i = k := by
        rw [i2, hk, nI_1] at w7
        have := nI_inj (by omega) (by omega) w7
        omega
      subst eik
      have ef := he g (i + 1) hg hk (by omega) (Nat.le_refl _)
      obtain ⟨fb1, fe, fo⟩ := flow_step hb w1 w3 hf ef
      have dist : ∀ g2 j, g2 ∈ S.1 → S.2.1 g2 = nI j → 1 ≤ j → j ≤ i → wy g2 / 2 ≠ wy g / 2 := by
        intro g2 j h2 hj j1 j2 hs
        rcases hp g2 h2 with ⟨-, -, q⟩ | ⟨-, v1, v2, v3, v4, v5, v6, v7⟩
        · rw [hj] at q
          exact absurd q (nI_ne0 (by omega) (by omega))
        · have dg : ∀ x, x ∈ S.1 → x = g → S.2.1 x = nI (i + 1) := fun x _ e => by rw [e]; exact hk
          have n1 : ¬ g2 = g := fun e => by
            rw [e, hk] at hj
            have := nI_inj (by omega) (by omega) hj
            omega
          have n2 : ¬ csr A B (wy g2) = g := fun e => by
            obtain ⟨-, l, l1, l2⟩ := hok.2.1 _ v6
            rw [l2, hj, nI_1] at v7
            have := nI_inj (by omega) (by omega) v7
            rw [e, hk] at l2
            have := nI_inj (by omega) (by omega) l2
            omega
          rcases c_ends A B (wy g) with ⟨-, -, a3⟩ | ⟨-, -, a3⟩
          · rcases c_ends A B (wy g2) with ⟨-, b2, b3⟩ | ⟨-, b2, b3⟩
            · exact n1 (by rw [← v4, b3, hs, ← a3, w4])
            · exact n2 (by rw [b2, hs, ← a3, w4])
          · rcases c_ends A B (wy g2) with ⟨-, b2, b3⟩ | ⟨-, b2, b3⟩
            · exact n2 (by rw [b2, hs, ← a3, w4])
            · exact n1 (by rw [← v4, b3, hs, ← a3, w4])
      obtain ⟨r1, r2⟩ := ih (csr A B (wy g)) (flU f (wy g)) (by omega) w6 i2 fb1 (fun g2 j h2 hj j1 j2 => by
        rw [flU_ne (dist g2 j h2 hj j1 j2)]
        exact he g2 j h2 hj j1 (by omega))
      refine ⟨r1, ?_⟩
      show flN sd A B r (pfF wy (csr A B) i (csr A B (wy g)) (flU f (wy g))) = _
      rw [r2, if_neg (show ¬ i + 1 = 0 by omega)]
      have hsd : sd (wy g / 2) = true := w2
      have e1 : flN sd A B r (flU f (wy g)) = flN sd A B r f + (flC sd A B r (flU f (wy g)) (wy g / 2) - flC sd A B r f (wy g / 2)) := by
        refine smN_one (by omega) (fun s hs hne => ?_)
        unfold flC
        rw [flU_ne hne]
      have hsr := hroot _ w6 i i2 (by omega)
      have hne2 := hab (wy g / 2) (by omega)
      rw [e1]
      unfold flC
      rw [if_pos hsd, if_pos hsd]
      rcases c_ends A B (wy g) with ⟨a1, a2, a3⟩ | ⟨a1, a2, a3⟩
      · rw [w4] at a3
        rw [a2] at hsr
        rw [fe a1]
        by_cases hi : i = 0
        · have hA := hsr.mpr hi
          rw [if_pos hA, if_pos hA, if_pos hi]
          omega
        · have hA : ¬ A (wy g / 2) = r := fun q => hi (hsr.mp q)
          rw [if_neg hA, if_neg hA, if_neg (by rw [← a3]; exact hgr), if_neg (by rw [← a3]; exact hgr), if_neg hi]
          omega
      · rw [w4] at a3
        rw [a2] at hsr
        rw [fo a1]
        have hA : ¬ A (wy g / 2) = r := by rw [← a3]; exact hgr
        rw [if_neg hA, if_neg hA]
        by_cases hi : i = 0
        · have hB := hsr.mpr hi
          rw [if_pos hB, if_pos hB, if_pos hi]
          omega
        · have hB : ¬ B (wy g / 2) = r := fun q => hi (hsr.mp q)
          rw [if_neg hB, if_neg hB, if_neg hi]
          omega
end
section
/-! Cuts: the rounds of paths, and the class's findCut -/
def fAg (N : Nat) (f g : Nat → Int32) : Prop := ∀ s, s < N → f s = g s
theorem fAg_U {N : Nat} {f g : Nat → Int32} (h : fAg N f g) (w : Nat) : fAg N (flU f w) (flU g w) := by
  intro s hs
  unfold flU
  simp only [upd]
  by_cases e : s = w / 2
  · rw [if_pos e, if_pos e, h (w / 2) (by omega)]
  · rw [if_neg e, if_neg e]; exact h s hs
theorem fAg_pf {N : Nat} {wy sr : Nat → Nat} : ∀ {k g : Nat} {f f2 : Nat → Int32}, fAg N f f2 → fAg N (pfF wy sr k g f) (pfF wy sr k g f2)
  | 0, _, _, _, h => h
  | k + 1, g, _, _, h => fAg_pf (k := k) (g := sr (wy g)) (fAg_U h (wy g))
theorem bsW_rm2 {st : Nat → Bool} {sr dt : Nat → Nat} {rm rm2 : Nat → Bool} {a : Nat} {S : bsT} : ∀ {w : Nat}, (∀ v, v < w → st v = true → rm v = rm2 v) → bsW st sr dt rm a S w = bsW st sr dt rm2 a S w
  | 0, _ => rfl
  | w + 1, h => by
    rw [bsW, bsW, bsW_rm2 (fun v hv => h v (by omega))]
    by_cases hc : st w = true ∧ sr w = a
    · rw [if_pos hc, if_pos hc]
      unfold bsS
      rw [h w (by omega) hc.1]
    · rw [if_neg hc, if_neg hc]
theorem bsR_rm2 {st : Nat → Bool} {sr dt : Nat → Nat} {rm rm2 : Nat → Bool} (h : ∀ v, v < 240 → st v = true → rm v = rm2 v) : ∀ (k i : Nat) (S : bsT), bsR st sr dt rm k i S = bsR st sr dt rm2 k i S
  | 0, _, _ => rfl
  | k + 1, i, S => by
    rw [bsR, bsR]
    by_cases hi : i < S.1.length
    · rw [dif_pos hi, dif_pos hi, bsW_rm2 h, bsR_rm2 h]
    · rw [dif_neg hi, dif_neg hi]
theorem rm_ag {sd : Nat → Bool} {n : Nat} {f g : Nat → Int32} (hsd : ∀ s, n ≤ s → sd s = false) (h : fAg n f g) : ∀ w, w < 240 → cst sd w = true → rmF f w = rmF g w := by
  intro w hw hs
  have h1 : w / 2 < n := by
    rcases Nat.lt_or_ge (w / 2) n with q | q
    · exact q
    · have : sd (w / 2) = true := hs
      rw [hsd _ q] at this; cases this
  unfold rmF
  rw [h _ h1]
/-- what can be reached beside a flow -/
def cuS (sd : Nat → Bool) (A B : Nat → Nat) (r : Nat) (fl : Nat → Int32) : bsT := bsF (cst sd) (csr A B) (cdt A B) (rmF fl) r bs0
noncomputable def cuW (sd : Nat → Bool) (A B : Nat → Nat) (r : Nat) (fl : Nat → Int32) : Nat → Nat := Classical.epsilon (fun wy => ptOk (cst sd) (csr A B) (cdt A B) (rmF fl) (cuS sd A B r fl) r wy)
noncomputable def cuN (sd : Nat → Bool) (A B : Nat → Nat) (r o : Nat) (fl : Nat → Int32) : Nat → Int32 := pfF (cuW sd A B r fl) (csr A B) ((cuS sd A B r fl).2.1 o).toNatClampNeg o fl
noncomputable def cuQ (sd : Nat → Bool) (A B : Nat → Nat) (r o : Nat) : Nat → (Nat → Int32)
  | 0 => fun _ => 0
  | i + 1 => cuN sd A B r o (cuQ sd A B r o i)
theorem cuW_ok {sd : Nat → Bool} {A B : Nat → Nat} {m r : Nat} (hm : m ≤ 41) (hd : ∀ w, w < 240 → cst sd w = true → cdt A B w < m) (hr : r < m) (fl : Nat → Int32) : ptOk (cst sd) (csr A B) (cdt A B) (rmF fl) (cuS sd A B r fl) r (cuW sd A B r fl) := Classical.epsilon_spec (pt_ex hm hd hr)
theorem cu_prog {sd : Nat → Bool} {A B : Nat → Nat} {m r o : Nat} (hm : m ≤ 41) (hd : ∀ w, w < 240 → cst sd w = true → cdt A B w < m) (hr : r < m) (hro : o ≠ r) (hab : ∀ s, s < 120 → A s ≠ B s) : ∀ i, (∀ j, j < i → o ∈ (cuS sd A B r (cuQ sd A B r o j)).1) → flB (cuQ sd A B r o i) ∧ flN sd A B r (cuQ sd A B r o i) = i
  | 0, _ => by
    refine ⟨fun s _ => Or.inr (Or.inl rfl), ?_⟩
    show smN (flC sd A B r (fun _ => 0)) 120 = 0
    have : ∀ n, smN (flC sd A B r (fun _ => 0)) n = 0 := by
      intro n
      induction n with
      | zero => rfl
      | succ n ih =>
        rw [smN, ih]
        unfold flC
        have e : (0 : Int32).toInt = 0 := by decide
        rw [e]
        split
        · split
          · rfl
          · split <;> rfl
        · rfl
    exact this 120
  | i + 1, h => by
    obtain ⟨i1, i2⟩ := cu_prog hm hd hr hro hab i (fun j hj => h j (by omega))
    have ho := h i (by omega)
    have hw := cuW_ok (A := A) (B := B) hm hd hr (cuQ sd A B r o i)
    obtain ⟨ok, -, -, -⟩ := bsF_all (sr := csr A B) (rm := rmF (cuQ sd A B r o i)) hm hd hr
    have ok : bsOk m (cuS sd A B r (cuQ sd A B r o i)) := ok
    obtain ⟨-, k, k1, k2⟩ := ok.2.1 o ho
    have hl := bsOk_len ok
    have ek : ((cuS sd A B r (cuQ sd A B r o i)).2.1 o).toNatClampNeg = k := by rw [k2]; exact nI_clamp (by omega)
    have k0 : k ≠ 0 := by
      intro q
      rcases hw o ho with ⟨z, -, -⟩ | ⟨-, -, -, -, -, -, q6, q7⟩
      · exact hro z
      · obtain ⟨-, l, l1, l2⟩ := ok.2.1 _ q6
        rw [l2, k2, nI_1] at q7
        have := nI_inj (by omega) (by omega) q7
        omega
    obtain ⟨f1, f2⟩ := flow_path hm ok hw i1 hab k o (cuQ sd A B r o i) (by omega) ho k2 i1 (fun _ _ _ _ _ _ => rfl)
    rw [cuQ, cuN, ek]
    refine ⟨f1, ?_⟩
    rw [f2, if_neg k0, i2]
    omega
/-- there is a round in which the other end is reached no more -/
theorem cu_end {sd : Nat → Bool} {A B : Nat → Nat} {m r o s0 : Nat} (hm : m ≤ 41) (hd : ∀ w, w < 240 → cst sd w = true → cdt A B w < m) (hr : r < m) (hro : o ≠ r) (hab : ∀ s, s < 120 → A s ≠ B s) (hs0 : s0 < 120) (hsd : sd s0 = false) : ∃ N, N ≤ 119 ∧ (∀ j, j < N → o ∈ (cuS sd A B r (cuQ sd A B r o j)).1) ∧ ¬ o ∈ (cuS sd A B r (cuQ sd A B r o N)).1 := by
  have ex : ∃ N, ¬ o ∈ (cuS sd A B r (cuQ sd A B r o N)).1 := by
    apply Classical.byContradiction
    intro hc
    have all : ∀ j, o ∈ (cuS sd A B r (cuQ sd A B r o j)).1 := fun j => Classical.byContradiction (fun q => hc ⟨j, q⟩)
    obtain ⟨p1, p2⟩ := cu_prog hm hd hr hro hab 120 (fun j _ => all j)
    have := flN_le (sd := sd) (A := A) (B := B) (r := r) p1
    have := ct_lt hs0 hsd
    omega
  obtain ⟨N, n1, n2⟩ := pk_least _ ex
  have n2 : ∀ j, j < N → o ∈ (cuS sd A B r (cuQ sd A B r o j)).1 := fun j hj => Classical.byContradiction (fun q => n2 j hj q)
  obtain ⟨p1, p2⟩ := cu_prog hm hd hr hro hab N n2
  have := flN_le (sd := sd) (A := A) (B := B) (r := r) p1
  have := ct_lt hs0 hsd
  exact ⟨N, by omega, n2, n1⟩
/-- a heap like another but for what searches use -/
def frW (h H : ia_H) : Prop := (∀ y, y ≠ 29 → y ≠ 34 → y ≠ 36 → y ≠ 37 → y ≠ 38 → y ≠ 39 → H.1 y = h.1 y) ∧ H.2 = h.2
theorem frW_hB {h H : ia_H} (hf : frW h H) (R d b : Nat → Int32) (c : Nat) : frW h (hB H R d b c) := by
  refine ⟨fun y h1 h2 h3 h4 h5 h6 => ?_, hf.2⟩
  show (if y = 29 then _ else if y = 38 then b else if y = 37 then d else if y = 36 then R else H.1 y) = h.1 y
  rw [if_neg h1, if_neg h5, if_neg h4, if_neg h3]
  exact hf.1 y h1 h2 h3 h4 h5 h6
theorem frW_39 {h H : ia_H} (hf : frW h H) (f : Nat → Int32) : frW h (hsI H 39 f) := by
  refine ⟨fun y h1 h2 h3 h4 h5 h6 => ?_, hf.2⟩
  show (if y = 39 then f else H.1 y) = h.1 y
  rw [if_neg h6]
  exact hf.1 y h1 h2 h3 h4 h5 h6
theorem frW_34 {h H : ia_H} (hf : frW h H) (f : Nat → Int32) : frW h (hsI H 34 f) := by
  refine ⟨fun y h1 h2 h3 h4 h5 h6 => ?_, hf.2⟩
  show (if y = 34 then f else H.1 y) = h.1 y
  rw [if_neg h2]
  exact hf.1 y h1 h2 h3 h4 h5 h6
theorem x1c : ∀ w, w < 240 → (w ^^^ 1) / 2 = w / 2 ∧ (w ^^^ 1) % 2 = 1 - w % 2 := by decide +kernel
theorem c_xor (sd : Nat → Bool) (A B : Nat → Nat) {w : Nat} (hw : w < 240) : cst sd (w ^^^ 1) = cst sd w ∧ cdt A B (w ^^^ 1) = csr A B w := by
  obtain ⟨e1, e2⟩ := x1c w hw
  unfold cst cdt csr
  rw [e1, e2]
  refine ⟨rfl, ?_⟩
  by_cases hp : w % 2 = 0
  · rw [if_neg (show ¬ 1 - w % 2 = 0 by omega), if_pos hp]
  · rw [if_pos (show 1 - w % 2 = 0 by omega), if_neg hp]
theorem l_cut1 (h : ia_H) (n m : Nat) (hn : n ≤ 120) (hm : m ≤ 41) (sd : Nat → Bool) (A B : Nat → Nat) (hsd : ∀ s, n ≤ s → sd s = false) (r o N : Nat) (hr : r < m) (ho : o < m) (hN : N ≤ 119) (n2 : ∀ j, j < N → o ∈ (cuS sd A B r (cuQ sd A B r o j)).1) (n1 : ¬ o ∈ (cuS sd A B r (cuQ sd A B r o N)).1) {Z : Option Value → ia_H → Prop}
    (hZ : ∀ (H : ia_H) (a3 a4 : Option Value), frW h H → (∀ g, g < 41 → (H.1 37 g = -1 ↔ ¬ g ∈ (cuS sd A B r (cuQ sd A B r o N)).1)) → R_ ia_k_X6_findCut Z (49, [some (.ref 29), some (.int (nI r)), some (.int (nI o)), a3, a4], [], H)) :
    ∀ (k i : Nat) (a4 : Option Value) (H : ia_H), i + k = N → frW h H → wbOk H (cst sd) (csr A B) (cdt A B) m → fAg 120 (H.1 39) (cuQ sd A B r o i) → R_ ia_k_X6_findCut Z (10, [some (.ref 29), some (.int (nI r)), some (.int (nI o)), some (.int (nI i)), a4], [], H) := by
  intro k
  induction k with
  | zero =>
    intro i a4 H hi hf hw hag
    have ei : i = N := by omega
    subst ei
    have hdt : ∀ w, w < 240 → cst sd w = true → cdt A B w < m := fun w h1 h2 => (hw.1 w h1 h2).2.1
    have e0 : bsF (cst sd) (csr A B) (cdt A B) (rmF (H.1 39)) r (bsH H) = bsF (cst sd) (csr A B) (cdt A B) (rmF (cuQ sd A B r o i)) r (bsH H) := bsR_rm2 (rm_ag hsd (fun s hs => hag s (by omega))) _ _ _
    have hE := bsE_F (sr := csr A B) (rm := rmF (cuQ sd A B r o i)) hm hdt hr (bsH_ok H m) List.not_mem_nil (bsH_E H)
    obtain ⟨okF, -, -, -⟩ := bsF_all (sr := csr A B) (rm := rmF (cuQ sd A B r o i)) hm hdt hr
    have okF : bsOk m (cuS sd A B r (cuQ sd A B r o i)) := okF
    have hE : bsE _ (cuS sd A B r (cuQ sd A B r o i)) := hE
    refine ia_walk (fun pc => Nat.beq pc 49) 60 (fun X hX => ?_)
    conv => whnf
    refine And.intro (fun c => ?_) (fun c => ?_)
    · exact absurd (show (120 : Int32) < nI i from c) (nI_nlt (a := 120) (b := i) (by omega) (by omega))
    · conv => whnf
      refine Exists.intro (_, _) (And.intro (ia_callE (v_forget2 H)) ?_)
      conv => whnf
      obtain ⟨r', h2, ev, z1, R2, z2, z3⟩ := v_reachFrom H (cst sd) (csr A B) (cdt A B) m hm hw r hr (bsH H) (bsH_ok _ m) List.not_mem_nil (H.1 36) (fun i hi => absurd hi (Nat.not_lt_zero i))
      refine Exists.intro (r', h2) (And.intro ev ?_)
      subst z1
      subst z3
      rw [e0]
      have key := fun g (hg : g < 41) => hE.2.1 g hg
      generalize bsF (cst sd) (csr A B) (cdt A B) (rmF (cuQ sd A B r o i)) r (bsH H) = S1 at key ⊢
      conv => whnf
      refine Exists.intro _ (And.intro (And.intro rfl (by omega)) ?_)
      conv => whnf
      refine And.intro (fun c1 => ?_) (fun c1 => ?_)
      · conv => whnf
        refine hX _ (hZ _ _ _ (frW_hB hf _ _ _ _) (fun g hg => ?_))
        show S1.2.1 g = -1 ↔ _
        rw [key g hg]
        exact bsOk_in okF hm hg
      · exact absurd (show S1.2.1 o = -1 by rw [key o (by omega)]; exact (bsOk_in okF hm (by omega)).mpr n1) c1
  | succ k ih =>
    intro i a4 H hi hf hw hag
    have hdt : ∀ w, w < 240 → cst sd w = true → cdt A B w < m := fun w h1 h2 => (hw.1 w h1 h2).2.1
    have e0 : bsF (cst sd) (csr A B) (cdt A B) (rmF (H.1 39)) r (bsH H) = bsF (cst sd) (csr A B) (cdt A B) (rmF (cuQ sd A B r o i)) r (bsH H) := bsR_rm2 (rm_ag hsd (fun s hs => hag s (by omega))) _ _ _
    have hE := bsE_F (sr := csr A B) (rm := rmF (cuQ sd A B r o i)) hm hdt hr (bsH_ok H m) List.not_mem_nil (bsH_E H)
    obtain ⟨okF, -, -, -⟩ := bsF_all (sr := csr A B) (rm := rmF (cuQ sd A B r o i)) hm hdt hr
    have okF : bsOk m (cuS sd A B r (cuQ sd A B r o i)) := okF
    have hE : bsE _ (cuS sd A B r (cuQ sd A B r o i)) := hE
    have hWy := cuW_ok (A := A) (B := B) hm hdt hr (cuQ sd A B r o i)
    have hin := n2 i (by omega)
    obtain ⟨-, kd, kd1, kd2⟩ := okF.2.1 o hin
    have hl := bsOk_len okF
    have ek : ((cuS sd A B r (cuQ sd A B r o i)).2.1 o).toNatClampNeg = kd := by rw [kd2]; exact nI_clamp (by omega)
    refine ia_walk (fun pc => Nat.beq pc 10) 60 (fun X hX => ?_)
    conv => whnf
    refine And.intro (fun c => ?_) (fun c => ?_)
    · exact absurd (show (120 : Int32) < nI i from c) (nI_nlt (a := 120) (b := i) (by omega) (by omega))
    · conv => whnf
      refine Exists.intro (_, _) (And.intro (ia_callE (v_forget2 H)) ?_)
      conv => whnf
      obtain ⟨r', h2, ev, z1, R2, z2, z3⟩ := v_reachFrom H (cst sd) (csr A B) (cdt A B) m hm hw r hr (bsH H) (bsH_ok _ m) List.not_mem_nil (H.1 36) (fun i hi => absurd hi (Nat.not_lt_zero i))
      refine Exists.intro (r', h2) (And.intro ev ?_)
      subst z1
      subst z3
      rw [e0]
      generalize bsF (cst sd) (csr A B) (cdt A B) (rmF (cuQ sd A B r o i)) r (bsH H) = S1 at hE ⊢
      conv => whnf
      refine Exists.intro _ (And.intro (And.intro rfl (by omega)) ?_)
      conv => whnf
      refine And.intro (fun c1 => ?_) (fun c1 => ?_)
      · exact absurd (show S1.2.1 o = -1 from c1) (by rw [hE.2.1 o (by omega), kd2]; exact nI_nm1 (by omega))
      · conv => whnf
        have hfl := v_flowAlong (hB H R2 S1.2.1 S1.2.2 S1.1.length) (cst sd) (csr A B) (cdt A B) (rmF (cuQ sd A B r o i)) (cuS sd A B r (cuQ sd A B r o i)) r (cuW sd A B r (cuQ sd A B r o i)) m hm okF hWy (fun g hg => hE.2.2 g (by rw [hE.1]; exact hg)) (fun w hw1 hw2 => by
          obtain ⟨x1, x2⟩ := xor1 w hw1
          obtain ⟨y1, y2⟩ := c_xor sd A B hw1
          have := (hw.1 (w ^^^ 1) x2 (by rw [y1]; exact hw2)).1
          rw [y2] at this
          exact this) o kd hin kd2 (by omega)
        refine Exists.intro (_, _) (And.intro (ia_callE hfl) ?_)
        conv => whnf
        rw [nI_1]
        refine hX _ (ih (i + 1) _ _ (by omega) (frW_39 (frW_hB hf _ _ _ _) _) hw ?_)
        show fAg 120 (pfF (cuW sd A B r (cuQ sd A B r o i)) (csr A B) kd o (H.1 39)) (cuQ sd A B r o (i + 1))
        rw [cuQ, cuN, ek]
        exact fAg_pf hag
end
section
/-! The class's findCut: which statements the cut has -/
/-- those of the first n that p picks -/
def sel (p : Nat → Bool) : Nat → List Nat
  | 0 => []
  | n + 1 => bif p n then sel p n ++ [n] else sel p n
theorem sel_t {p : Nat → Bool} {n : Nat} (h : p n = true) : sel p (n + 1) = sel p n ++ [n] := by simp [sel, h]
theorem sel_f {p : Nat → Bool} {n : Nat} (h : p n = false) : sel p (n + 1) = sel p n := by simp [sel, h]
theorem sel_len (p : Nat → Bool) : ∀ n, (sel p n).length ≤ n
  | 0 => Nat.le_refl 0
  | n + 1 => by
    have := sel_len p n
    simp only [sel]
    cases p n <;> simp <;> omega
theorem sel_congr {p q : Nat → Bool} : ∀ {n : Nat}, (∀ k, k < n → p k = q k) → sel p n = sel q n
  | 0, _ => rfl
  | n + 1, h => by rw [sel, sel, sel_congr (fun k hk => h k (by omega)), h n (by omega)]
theorem sel_stop {p : Nat → Bool} {m : Nat} : ∀ {n : Nat}, m ≤ n → (∀ k, m ≤ k → k < n → p k = false) → sel p n = sel p m
  | 0, h, _ => by rw [show m = 0 by omega]
  | n + 1, h, hp => by
    by_cases he : m = n + 1
    · rw [he]
    · rw [sel_f (hp n (by omega) (by omega))]
      exact sel_stop (by omega) (fun k h1 h2 => hp k h1 (by omega))
theorem mul2d : ∀ s, s < 132 → (2 : Int32) * nI s = nI (2 * s) ∧ (2 : Int32) * nI s + 1 = nI (2 * s + 1) := by decide +kernel
theorem v_isStanding (h : ia_H) (s : Nat) (hs : s < 120) : V_ 43 [.ref 29, .int (nI s)] h (Z_ (.int (bif !decide (h.1 30 (2 * s) = -1) then 1 else 0)) h) := by
  refine ia_V_in ia_k_X6_isStanding [some (.ref 29), some (.int (nI s))] rfl rfl (Nat.le_of_ble_eq_true rfl) rfl ?_
  refine ia_walk (fun _ => false) 60 (fun X hX => ?_)
  conv => whnf
  refine Exists.intro (2 * s) (And.intro (And.intro ((mul2d s (by omega)).1) (by omega)) ?_)
  conv => whnf
  refine And.intro (fun c => ?_) (fun c => ?_)
  · conv => whnf
    refine ⟨Or.inl rfl, ?_, rfl⟩
    have c : h.1 30 (2 * s) = -1 := c
    rw [c]
    rfl
  · conv => whnf
    refine ⟨Or.inr rfl, ?_, rfl⟩
    have c : ¬ h.1 30 (2 * s) = -1 := c
    rw [decide_eq_false c]
    rfl
theorem v_isReached (h : ia_H) (g : Nat) (hg : g < 41) : V_ 54 [.ref 29, .int (nI g)] h (Z_ (.int (bif !decide (h.1 37 g = -1) then 1 else 0)) h) := by
  refine ia_V_in ia_k_X6_isReached [some (.ref 29), some (.int (nI g))] rfl rfl (Nat.le_of_ble_eq_true rfl) rfl ?_
  refine ia_walk (fun _ => false) 60 (fun X hX => ?_)
  conv => whnf
  refine Exists.intro _ (And.intro (And.intro rfl (by omega)) ?_)
  conv => whnf
  refine And.intro (fun c => ?_) (fun c => ?_)
  · conv => whnf
    refine ⟨Or.inl rfl, ?_, rfl⟩
    have c : h.1 37 g = -1 := c
    rw [c]
    rfl
  · conv => whnf
    refine ⟨Or.inr rfl, ?_, rfl⟩
    have c : ¬ h.1 37 g = -1 := c
    rw [decide_eq_false c]
    rfl
theorem v_isReachedE (h : ia_H) {x : Int32} {g : Nat} (e : x = nI g) (hg : g < 41) : V_ 54 [.ref 29, .int x] h (Z_ (.int (bif !decide (h.1 37 g = -1) then 1 else 0)) h) := by
  subst e
  exact v_isReached h g hg
/-- which statement is in the cut that q has on one side -/
def cuP (sd : Nat → Bool) (A B : Nat → Nat) (q : List Nat) (s : Nat) : Bool := sd s && (decide (A s ∈ q) != decide (B s ∈ q))
theorem bne01 : ∀ a b : Bool, ((bif a then (1 : Int32) else 0) = (bif b then 1 else 0)) ↔ a = b := by decide
theorem l_cut2 (h : ia_H) (sd : Nat → Bool) (A B : Nat → Nat) (m : Nat) (hm : m ≤ 41) (hw : ∀ w, w < 240 → cst sd w = true → h.1 30 w = nI (cdt A B w) ∧ cdt A B w < m) (hL : ∀ s, s < 120 → sd s = false → h.1 30 (2 * s) = -1) (q : List Nat) (hq : ∀ g, g < 41 → (h.1 37 g = -1 ↔ ¬ g ∈ q)) (a1 a2 : Int32) {Z : Option Value → ia_H → Prop}
    (hZ : ∀ T, rwOk T (sel (cuP sd A B q) 120) → Z (some (.int (nI (sel (cuP sd A B q) 120).length))) (hsI h 34 T)) :
    ∀ (k s : Nat) (T : Nat → Int32), s + k = 120 → rwOk T (sel (cuP sd A B q) s) → R_ ia_k_X6_findCut Z (54, [some (.ref 29), some (.int a1), some (.int a2), some (.int (nI (sel (cuP sd A B q) s).length)), some (.int (nI s))], [], hsI h 34 T) := by
  intro k
  induction k with
  | zero =>
    intro s T hs hT
    rw [show s = 120 by omega] at hT ⊢
    refine ia_walk (fun pc => Nat.beq pc 54) 60 (fun X hX => ?_)
    conv => whnf
    refine And.intro (fun c => ?_) (fun c => ?_)
    · exact absurd (show nI 120 < 120 from c) (by decide)
    · conv => whnf
      exact hZ T hT
  | succ k ih =>
    intro s T hs hT
    have hl := sel_len (cuP sd A B q) s
    have ih := ih (s + 1)
    refine ia_walk (fun pc => Nat.beq pc 54) 60 (fun X hX => ?_)
    conv => whnf
    refine And.intro (fun c => ?_) (fun c => ?_)
    · conv => whnf
      obtain ⟨v, ev, ev'⟩ := ia_callN (v_isStanding (hsI h 34 T) s (by omega))
      refine Exists.intro (_, _) (And.intro ev' ?_)
      clear ev'
      conv => whnf
      refine And.intro (fun c1 => ?_) (fun c1 => ?_)
      · conv => whnf
        have hsd : sd s = false := by
          cases e : sd s
          · rfl
          · exfalso
            have h1 := (hw (2 * s) (by omega) (by rw [(c_even sd A B s).1]; exact e))
            have h2 : ¬ h.1 30 (2 * s) = -1 := by rw [h1.1]; exact nI_nm1 (by omega)
            have h3 : (hsI h 34 T).1 30 (2 * s) = h.1 30 (2 * s) := rfl
            rw [ev, h3, decide_eq_false h2] at c1
            exact absurd c1 (by decide)
        have e := sel_f (p := cuP sd A B q) (n := s) (by unfold cuP; rw [hsd]; rfl)
        rw [nI_1]
        rw [e] at ih
        exact hX _ (ih T (by omega) hT)
      · have hsd : sd s = true := by
          cases e : sd s
          · exfalso
            have h3 : (hsI h 34 T).1 30 (2 * s) = -1 := hL s (by omega) e
            rw [ev, h3] at c1
            exact absurd c1 (by decide)
          · rfl
        have w0 := hw (2 * s) (by omega) (by rw [(c_even sd A B s).1]; exact hsd)
        have w1 := hw (2 * s + 1) (by omega) (by rw [(c_odd sd A B s).1]; exact hsd)
        rw [(c_even sd A B s).2.2] at w0
        rw [(c_odd sd A B s).2.2] at w1
        conv => whnf
        refine Exists.intro (2 * s) (And.intro (And.intro ((mul2d s (by omega)).1) (by omega)) ?_)
        conv => whnf
        obtain ⟨vb, eb, ev'⟩ := ia_callN (v_isReachedE (hsI h 34 T) w0.1 (by omega))
        refine Exists.intro (_, _) (And.intro ev' ?_)
        clear ev'
        conv => whnf
        refine Exists.intro (2 * s + 1) (And.intro (And.intro ((mul2d s (by omega)).2) (by omega)) ?_)
        conv => whnf
        obtain ⟨va, ea, ev'⟩ := ia_callN (v_isReachedE (hsI h 34 T) w1.1 (by omega))
        refine Exists.intro (_, _) (And.intro ev' ?_)
        clear ev'
        have hb : (!decide ((hsI h 34 T).1 37 (B s) = -1)) = decide (B s ∈ q) := by
          have := hq (B s) (by omega)
          by_cases z : B s ∈ q
          · rw [decide_eq_true z, decide_eq_false (show ¬ (hsI h 34 T).1 37 (B s) = -1 from fun y => this.mp y z)]; rfl
          · rw [decide_eq_false z, decide_eq_true (show (hsI h 34 T).1 37 (B s) = -1 from this.mpr z)]; rfl
        have ha : (!decide ((hsI h 34 T).1 37 (A s) = -1)) = decide (A s ∈ q) := by
          have := hq (A s) (by omega)
          by_cases z : A s ∈ q
          · rw [decide_eq_true z, decide_eq_false (show ¬ (hsI h 34 T).1 37 (A s) = -1 from fun y => this.mp y z)]; rfl
          · rw [decide_eq_false z, decide_eq_true (show (hsI h 34 T).1 37 (A s) = -1 from this.mpr z)]; rfl
        conv => whnf
        refine And.intro (fun c2 => ?_) (fun c2 => ?_)
        · conv => whnf
          have z : decide (B s ∈ q) = decide (A s ∈ q) := by
            rw [← hb, ← ha]
            refine (bne01 _ _).mp ?_
            rw [← eb, ← ea]
            exact c2
          have e := sel_f (p := cuP sd A B q) (n := s) (by unfold cuP; rw [z, hsd]; cases decide (A s ∈ q) <;> rfl)
          rw [nI_1]
          rw [e] at ih
          exact hX _ (ih T (by omega) hT)
        · have z : ¬ decide (B s ∈ q) = decide (A s ∈ q) := by
            intro y
            rw [← hb, ← ha] at y
            have := (bne01 _ _).mpr y
            rw [← eb, ← ea] at this
            exact c2 this
          have e := sel_t (p := cuP sd A B q) (n := s) (by
            unfold cuP; rw [hsd]; revert z; cases decide (A s ∈ q) <;> cases decide (B s ∈ q) <;> decide)
          conv => whnf
          refine Exists.intro _ (And.intro (And.intro rfl (by omega)) ?_)
          conv => whnf
          rw [nI_1, nI_1]
          rw [e, List.length_append] at ih
          refine hX _ ?_
          have := ih (upd T (sel (cuP sd A B q) s).length (nI s)) (by omega) (rwOk_put hT s)
          rw [← hsI_same h 34 T] at this
          exact this
    · exact absurd ((nI_lt120 (by omega)).mpr (by omega)) c
theorem v_findCut (h : ia_H) (n m : Nat) (hn : n ≤ 120) (hm : m ≤ 41) (sd : Nat → Bool) (A B : Nat → Nat) (hsd : ∀ s, n ≤ s → sd s = false) (hw : wbOk h (cst sd) (csr A B) (cdt A B) m) (hL : ∀ s, s < 120 → sd s = false → h.1 30 (2 * s) = -1) (r o N : Nat) (hr : r < m) (ho : o < m) (hN : N ≤ 119) (n2 : ∀ j, j < N → o ∈ (cuS sd A B r (cuQ sd A B r o j)).1) (n1 : ¬ o ∈ (cuS sd A B r (cuQ sd A B r o N)).1) :
    V_ 53 [.ref 29, .int (nI r), .int (nI o)] h (fun v h' => v = some (.int (nI (sel (cuP sd A B (cuS sd A B r (cuQ sd A B r o N)).1) 120).length)) ∧ frW h h' ∧ rwOk (h'.1 34) (sel (cuP sd A B (cuS sd A B r (cuQ sd A B r o N)).1) 120)) := by
  refine ia_V_in ia_k_X6_findCut [some (.ref 29), some (.int (nI r)), some (.int (nI o)), none, none] rfl rfl (Nat.le_of_ble_eq_true rfl) rfl ?_
  refine ia_walk (fun pc => Nat.beq pc 10) 60 (fun X hX => ?_)
  conv => whnf
  refine Exists.intro (_, _) (And.intro (ia_callE (v_fill_flow h 0)) ?_)
  conv => whnf
  refine hX _ (l_cut1 h n m hn hm sd A B hsd r o N hr ho hN n2 n1 (fun H a3 a4 hf hq => ?_) N 0 none (h0F h) (by omega) (frW_39 ⟨fun _ _ _ _ _ _ _ => rfl, rfl⟩ _) hw (fun s hs => ?_))
  · refine ia_walk (fun pc => Nat.beq pc 54) 60 (fun X hX => ?_)
    conv => whnf
    have e30 : H.1 30 = h.1 30 := hf.1 30 (by decide) (by decide) (by decide) (by decide) (by decide) (by decide)
    have l2 := l_cut2 H sd A B m hm (fun w h1 h2 => ⟨by rw [e30]; exact (hw.1 w h1 h2).1, (hw.1 w h1 h2).2.1⟩) (fun s h1 h2 => by rw [e30]; exact hL s h1 h2) _ hq (nI r) (nI o) (Z := fun v h' => v = some (.int (nI (sel (cuP sd A B (cuS sd A B r (cuQ sd A B r o N)).1) 120).length)) ∧ frW h h' ∧ rwOk (h'.1 34) (sel (cuP sd A B (cuS sd A B r (cuQ sd A B r o N)).1) 120)) (fun T hT => ⟨rfl, frW_34 hf T, hT⟩) 120 0 (H.1 34) (by omega) (fun i hi => absurd hi (Nat.not_lt_zero i))
    rw [hsI_eta] at l2
    exact hX _ l2
  · show flF (h.1 39) 120 0 s = 0
    exact if_pos hs
end
section
/-! The reference's cut -/
theorem sel_at {p : Nat → Bool} {s : Nat} (hp : p s = true) : ∀ {n : Nat}, s < n → ∃ hj : (sel p s).length < (sel p n).length, (sel p n)[(sel p s).length] = s
  | 0, h => absurd h (Nat.not_lt_zero s)
  | n + 1, h => by
    by_cases e : s = n
    · subst e
      have e2 := sel_t (n := s) hp
      refine ⟨by rw [e2, List.length_append]; exact Nat.lt_succ_self _, ?_⟩
      simp only [e2]
      simp
    · obtain ⟨q1, q2⟩ := sel_at hp (n := n) (by omega)
      cases hc : p n
      · have e2 := sel_f (n := n) hc
        refine ⟨by rw [e2]; exact q1, ?_⟩
        simp only [e2]
        exact q2
      · have e2 := sel_t (n := n) hc
        refine ⟨by rw [e2, List.length_append]; omega, ?_⟩
        simp only [e2]
        rw [List.getElem_append_left q1]
        exact q2
/-- what is answered of a list of statements, of its k-th -/
def lsA (l : List Nat) (k v : Int32) : Prop := (∃ (j : Nat) (hj : j < l.length), k = nI j ∧ v = nI l[j]) ∨ ((∀ j, j < l.length → ¬ k = nI j) ∧ v = if k = -1 then nI l.length else -2)
theorem lsA_eq {l : List Nat} {k v v' : Int32} (hl : l.length < 2 ^ 31) (h1 : lsA l k v) (h2 : lsA l k v') : v = v' := by
  rcases h1 with ⟨j, hj, a, b⟩ | ⟨a, b⟩ <;> rcases h2 with ⟨j', hj', a', b'⟩ | ⟨a', b'⟩
  · have : j = j' := nI_inj (by omega) (by omega) (a.symm.trans a')
    subst this
    rw [b, b']
  · exact absurd a (a' j hj)
  · exact absurd a' (a j' hj')
  · rw [b, b']
theorem m_isCut (h : ia_H) (n G : Nat) (sd : Nat → Bool) (A B : Nat → Nat) (hd : mdOk h n G sd A B) (q : List Nat) (hq : irOk G (h.1 66) q) (s : Nat) (hs : s < n) : V_ 157 [.ref 52, .int (nI s)] h (Z_ (.int (bif cuP sd A B q s then 1 else 0)) h) := by
  obtain ⟨hn, hG, en, eG, hst, -⟩ := hd
  obtain ⟨a1, a2, b1, b2, hab, hs1⟩ := hst s hs
  refine ia_V_in ia_k_X8_isCut [some (.ref 52), some (.int (nI s))] rfl rfl (Nat.le_of_ble_eq_true rfl) rfl ?_
  refine ia_walk (fun _ => false) 60 (fun X hX => ?_)
  conv => whnf
  obtain ⟨v, ev, ev'⟩ := ia_callN (m_isStanding h s (by omega))
  refine Exists.intro (_, _) (And.intro ev' ?_)
  clear ev'
  rw [← hs1] at ev
  conv => whnf
  refine And.intro (fun c => ?_) (fun c => ?_)
  · conv => whnf
    refine ⟨Or.inl rfl, ?_, rfl⟩
    have : sd s = false := by
      cases e : sd s
      · rfl
      · rw [ev, e] at c; exact absurd c (by decide)
    unfold cuP
    rw [this]
    rfl
  · have hsd : sd s = true := by
      cases e : sd s
      · rw [ev, e] at c; exact absurd rfl c
      · rfl
    conv => whnf
    refine Exists.intro _ (And.intro (And.intro rfl (by omega)) ?_)
    conv => whnf
    refine Exists.intro (A s) (And.intro (And.intro (a1) (by omega)) ?_)
    conv => whnf
    refine Exists.intro _ (And.intro (And.intro rfl (by omega)) ?_)
    conv => whnf
    refine Exists.intro (B s) (And.intro (And.intro (b1) (by omega)) ?_)
    conv => whnf
    refine And.intro (fun c2 => ?_) (fun c2 => ?_)
    · conv => whnf
      refine ⟨Or.inl rfl, ?_, rfl⟩
      have c2 : h.1 66 (A s) = h.1 66 (B s) := c2
      have z : decide (A s ∈ q) = decide (B s ∈ q) := by
        by_cases x : A s ∈ q <;> by_cases y : B s ∈ q
        · rw [decide_eq_true x, decide_eq_true y]
        · rw [(hq _ a2).1 x, (hq _ b2).2 y] at c2; exact absurd c2 (by decide)
        · rw [(hq _ a2).2 x, (hq _ b2).1 y] at c2; exact absurd c2 (by decide)
        · rw [decide_eq_false x, decide_eq_false y]
      unfold cuP
      rw [z, hsd]
      cases decide (B s ∈ q) <;> rfl
    · conv => whnf
      refine ⟨Or.inr rfl, ?_, rfl⟩
      have c2 : ¬ h.1 66 (A s) = h.1 66 (B s) := c2
      have z : ¬ decide (A s ∈ q) = decide (B s ∈ q) := by
        intro w
        by_cases x : A s ∈ q <;> by_cases y : B s ∈ q
        · exact c2 ((hq _ a2).1 x ▸ (hq _ b2).1 y ▸ rfl)
        · rw [decide_eq_true x, decide_eq_false y] at w; cases w
        · rw [decide_eq_false x, decide_eq_true y] at w; cases w
        · exact c2 ((hq _ a2).2 x ▸ (hq _ b2).2 y ▸ rfl)
      unfold cuP
      rw [hsd]
      revert z
      cases decide (A s ∈ q) <;> cases decide (B s ∈ q) <;> decide
theorem l_mcut3 (h : ia_H) (n G : Nat) (sd : Nat → Bool) (A B : Nat → Nat) (hd : mdOk h n G sd A B) (q : List Nat) (hq : irOk G (h.1 66) q) (a1 kk : Int32) {Z : Option Value → ia_H → Prop} (hZ : ∀ v, lsA (sel (cuP sd A B q) n) kk v → Z (some (.int v)) h) :
    ∀ k s : Nat, s + k = n → (∀ j, j < (sel (cuP sd A B q) s).length → ¬ kk = nI j) → R_ ia_k_X8_cut Z (106, [some (.ref 52), some (.int a1), some (.int kk), some (.int (nI (sel (cuP sd A B q) s).length)), some (.int (nI s))], [], h) := by
  have hn := hd.1
  have en := hd.2.2.1
  intro k
  induction k with
  | zero =>
    intro s hs hno
    rw [show s = n by omega] at hno ⊢
    refine ia_walk (fun pc => Nat.beq pc 106) 60 (fun X hX => ?_)
    conv => whnf
    refine And.intro (fun c => ?_) (fun c => ?_)
    · exact absurd (show nI n < h.1 52 10 from c) (by rw [en]; exact nI_nlt (by omega) (by omega))
    · conv => whnf
      refine And.intro (fun c2 => ?_) (fun c2 => ?_)
      · conv => whnf
        exact hZ _ (Or.inr ⟨hno, (if_pos c2).symm⟩)
      · conv => whnf
        exact hZ _ (Or.inr ⟨hno, (if_neg c2).symm⟩)
  | succ k ih =>
    intro s hs hno
    have hl := sel_len (cuP sd A B q) s
    have ih := ih (s + 1) (by omega)
    refine ia_walk (fun pc => Nat.beq pc 106) 60 (fun X hX => ?_)
    conv => whnf
    refine And.intro (fun c => ?_) (fun c => ?_)
    · conv => whnf
      obtain ⟨v, ev, ev'⟩ := ia_callN (m_isCut h n G sd A B hd q hq s (by omega))
      refine Exists.intro (_, _) (And.intro ev' ?_)
      clear ev'
      conv => whnf
      refine And.intro (fun c1 => ?_) (fun c1 => ?_)
      · have hp : cuP sd A B q s = false := by
          cases e : cuP sd A B q s
          · rfl
          · rw [ev, e] at c1; exact absurd c1 (by decide)
        conv => whnf
        rw [nI_1]
        rw [sel_f hp] at ih
        exact hX _ (ih hno)
      · have hp : cuP sd A B q s = true := by
          cases e : cuP sd A B q s
          · rw [ev, e] at c1; exact absurd rfl c1
          · rfl
        conv => whnf
        refine And.intro (fun c2 => ?_) (fun c2 => ?_)
        · obtain ⟨q1, q2⟩ := sel_at hp (n := n) (by omega)
          have c2 : nI (sel (cuP sd A B q) s).length = kk := c2
          conv => whnf
          exact hZ _ (Or.inl ⟨_, q1, c2.symm, by rw [q2]⟩)
        · have c2 : ¬ nI (sel (cuP sd A B q) s).length = kk := c2
          conv => whnf
          rw [nI_1, nI_1]
          rw [sel_t hp, List.length_append] at ih
          refine hX _ (ih (fun j hj e => ?_))
          have hj : j < (sel (cuP sd A B q) s).length + 1 := hj
          by_cases z : j = (sel (cuP sd A B q) s).length
          · exact c2 (by rw [← z]; exact e.symm)
          · exact hno j (by omega) e
    · exact absurd (show nI s < h.1 52 10 by rw [en]; exact nI_lt (by omega) (by omega)) c
/-- a heap like another but for what the reference's cut uses -/
def frM (h H : ia_H) : Prop := (∀ y, y ≠ 66 → y ≠ 67 → y ≠ 72 → y ≠ 73 → H.1 y = h.1 y) ∧ H.2 = h.2
theorem frM_hC {h H : ia_H} (hf : frM h H) (I Q C : Nat → Int32) : frM h (hC H I Q C) := by
  refine ⟨fun y h1 h2 h3 h4 => ?_, hf.2⟩
  show (if y = 73 then C else if y = 67 then Q else if y = 66 then I else H.1 y) = h.1 y
  rw [if_neg h4, if_neg h2, if_neg h1]
  exact hf.1 y h1 h2 h3 h4
theorem frM_72 {h H : ia_H} (hf : frM h H) (f : Nat → Int32) : frM h (hsI H 72 f) := by
  refine ⟨fun y h1 h2 h3 h4 => ?_, hf.2⟩
  show (if y = 72 then f else H.1 y) = h.1 y
  rw [if_neg h3]
  exact hf.1 y h1 h2 h3 h4
theorem mdOk_fr {h H : ia_H} {n G : Nat} {sd : Nat → Bool} {A B : Nat → Nat} (hd : mdOk h n G sd A B) (hf : frM h H) : mdOk H n G sd A B := by
  obtain ⟨h1, h2, h3, h4, h5, h6⟩ := hd
  refine ⟨h1, h2, ?_, ?_, fun s hs => ?_, h6⟩
  · rw [hf.1 52 (by decide) (by decide) (by decide) (by decide)]; exact h3
  · rw [hf.1 52 (by decide) (by decide) (by decide) (by decide)]; exact h4
  · rw [hf.1 56 (by decide) (by decide) (by decide) (by decide), hf.1 57 (by decide) (by decide) (by decide) (by decide), hf.1 62 (by decide) (by decide) (by decide) (by decide)]; exact h5 s hs
theorem l_mcut2 (h : ia_H) (n G : Nat) (sd : Nat → Bool) (A B : Nat → Nat) (hd : mdOk h n G sd A B) (x : Nat) (hx : x < n) (kk : Int32) (hkk : ∀ j : Nat, j < 0 → ¬ kk = nI j) (a4 : Option Value) (N : Nat) (n2 : ∀ j, j < N → B x ∈ (cuS sd A B (A x) (cuQ sd A B (A x) (B x) j)).1) (n1 : ¬ B x ∈ (cuS sd A B (A x) (cuQ sd A B (A x) (B x) N)).1) {Z : Option Value → ia_H → Prop} (hZ : ∀ v H, frM h H → lsA (sel (cuP sd A B (cuS sd A B (A x) (cuQ sd A B (A x) (B x) N)).1) n) kk v → Z (some (.int v)) H) :
    ∀ (k i : Nat) (a3 : Option Value) (H : ia_H), i + k = N → frM h H → fAg n (H.1 72) (cuQ sd A B (A x) (B x) i) → irOk G (H.1 66) (cuS sd A B (A x) (cuQ sd A B (A x) (B x) i)).1 → cbOk (H.1 73) (cuS sd A B (A x) (cuQ sd A B (A x) (B x) i)).2.2 (cuS sd A B (A x) (cuQ sd A B (A x) (B x) i)).1 → R_ ia_k_X8_cut Z (58, [some (.ref 52), some (.int (nI x)), some (.int kk), a3, a4], [], H) := by
  have hn := hd.1
  have hG := hd.2.1
  obtain ⟨x1, x2, x3, x4, x5, -⟩ := hd.2.2.2.2.1 x hx
  have hdt : ∀ w, w < 240 → cst sd w = true → cdt A B w < G := fun w h1 h2 => (md_dt hd w h1 h2).1
  intro k
  induction k with
  | zero =>
    intro i a3 H hi hf hag hir hcb
    have ei : i = N := by omega
    subst ei
    have hdH := mdOk_fr hd hf
    obtain ⟨y1, -, y3, -, -, -⟩ := hdH.2.2.2.2.1 x hx
    refine ia_walk (fun pc => Nat.beq pc 106) 60 (fun X hX => ?_)
    conv => whnf
    refine Exists.intro _ (And.intro (And.intro rfl (by omega)) ?_)
    conv => whnf
    refine Exists.intro (B x) (And.intro (And.intro (y3) (by omega)) ?_)
    conv => whnf
    refine And.intro (fun c => ?_) (fun c => ?_)
    · conv => whnf
      exact hX _ (l_mcut3 H n G sd A B hdH _ hir (nI x) kk (fun v hv => hZ v H hf hv) n 0 (by omega) (fun j hj => hkk j hj))
    · exact absurd (show H.1 66 (B x) = 0 from (hir _ x4).2 n1) c
  | succ k ih =>
    intro i a3 H hi hf hag hir hcb
    have hdH := mdOk_fr hd hf
    obtain ⟨y1, -, y3, -, -, -⟩ := hdH.2.2.2.2.1 x hx
    have hin := n2 i (by omega)
    obtain ⟨okF, -, -, -⟩ := bsF_all (sr := csr A B) (rm := rmF (cuQ sd A B (A x) (B x) i)) hG hdt x2
    have okF : bsOk G (cuS sd A B (A x) (cuQ sd A B (A x) (B x) i)) := okF
    have hWy := cuW_ok (A := A) (B := B) hG hdt x2 (cuQ sd A B (A x) (B x) i)
    obtain ⟨-, kd, kd1, kd2⟩ := okF.2.1 _ hin
    have hl := bsOk_len okF
    have ek : ((cuS sd A B (A x) (cuQ sd A B (A x) (B x) i)).2.1 (B x)).toNatClampNeg = kd := by rw [kd2]; exact nI_clamp (by omega)
    have hlp := v_laysPath H n G sd A B hdH _ _ (A x) x2 _ okF hWy hcb (B x) kd hin kd2 (by omega)
    have hf2 := frM_72 hf (pfF (cuW sd A B (A x) (cuQ sd A B (A x) (B x) i)) (csr A B) kd (B x) (H.1 72))
    have hag2 : fAg n (pfF (cuW sd A B (A x) (cuQ sd A B (A x) (B x) i)) (csr A B) kd (B x) (H.1 72)) (cuQ sd A B (A x) (B x) (i + 1)) := by
      rw [cuQ, cuN, ek]
      exact fAg_pf hag
    generalize pfF (cuW sd A B (A x) (cuQ sd A B (A x) (B x) i)) (csr A B) kd (B x) (H.1 72) = F at hlp hf2 hag2
    have hd2 := mdOk_fr hd hf2
    obtain ⟨z1, -, z3, -, -, -⟩ := hd2.2.2.2.2.1 x hx
    obtain ⟨r', h2, evs, w1, I, Q, C, w2, w3, w4⟩ := v_spreads (hsI H 72 F) n G sd A B hd2 (A x) x2
    have e0 : bsF (cst sd) (csr A B) (cdt A B) (rmF ((hsI H 72 F).1 72)) (A x) bs0 = cuS sd A B (A x) (cuQ sd A B (A x) (B x) (i + 1)) := bsR_rm2 (rm_ag hd.2.2.2.2.2 hag2) _ _ _
    rw [e0] at w2 w3
    subst w1
    subst w4
    rw [← z1] at evs
    refine ia_walk (fun pc => Nat.beq pc 58) 60 (fun X hX => ?_)
    conv => whnf
    refine Exists.intro _ (And.intro (And.intro rfl (by omega)) ?_)
    conv => whnf
    refine Exists.intro (B x) (And.intro (And.intro (y3) (by omega)) ?_)
    conv => whnf
    refine And.intro (fun c => ?_) (fun c => ?_)
    · exact absurd (show H.1 66 (B x) = 0 from c) (by rw [(hir _ x4).1 hin]; decide)
    · conv => whnf
      refine Exists.intro _ (And.intro (And.intro rfl (by omega)) ?_)
      conv => whnf
      rw [y1]
      conv => whnf
      refine Exists.intro _ (And.intro (And.intro rfl (by omega)) ?_)
      conv => whnf
      rw [y3]
      refine Exists.intro (_, _) (And.intro (ia_callE hlp) ?_)
      conv => whnf
      refine Exists.intro _ (And.intro (And.intro rfl (by omega)) ?_)
      conv => whnf
      refine Exists.intro (_, _) (And.intro evs ?_)
      conv => whnf
      exact hX _ (ih (i + 1) a3 _ (by omega) (frM_hC hf2 I Q C) hag2 w2 w3)
theorem l_mcut1 (h : ia_H) (n G : Nat) (sd : Nat → Bool) (A B : Nat → Nat) (hd : mdOk h n G sd A B) (a1 a2 : Int32) {Z : Option Value → ia_H → Prop} (hZ : ∀ (H : ia_H) (a3 : Option Value), frM h H → fAg n (H.1 72) (fun _ => 0) → R_ ia_k_X8_cut Z (48, [some (.ref 52), some (.int a1), some (.int a2), a3, none], [], H)) :
    ∀ (k s : Nat) (F : Nat → Int32), s + k = n → fAg s F (fun _ => 0) → R_ ia_k_X8_cut Z (27, [some (.ref 52), some (.int a1), some (.int a2), some (.int (nI s)), none], [], hsI h 72 F) := by
  have hn := hd.1
  have en := hd.2.2.1
  intro k
  induction k with
  | zero =>
    intro s F hs hF
    rw [show s = n by omega] at hF ⊢
    refine ia_walk (fun pc => Nat.beq pc 48) 60 (fun X hX => ?_)
    conv => whnf
    refine And.intro (fun c => ?_) (fun c => ?_)
    · exact absurd (show nI n < h.1 52 10 from c) (by rw [en]; exact nI_nlt (by omega) (by omega))
    · conv => whnf
      exact hX _ (hZ _ _ (frM_72 ⟨fun _ _ _ _ _ => rfl, rfl⟩ F) hF)
  | succ k ih =>
    intro s F hs hF
    refine ia_walk (fun pc => Nat.beq pc 27) 60 (fun X hX => ?_)
    conv => whnf
    refine And.intro (fun c => ?_) (fun c => ?_)
    · conv => whnf
      refine Exists.intro _ (And.intro (And.intro rfl (by omega)) ?_)
      conv => whnf
      rw [nI_1]
      have := ih (s + 1) (upd F s 0) (by omega) (fun j hj => by
        show (if j = s then 0 else F j) = 0
        by_cases e : j = s
        · exact if_pos e
        · rw [if_neg e]; exact hF j (by omega))
      rw [← hsI_same h 72 F] at this
      exact hX _ this
    · exact absurd (show nI s < h.1 52 10 by rw [en]; exact nI_lt (by omega) (by omega)) c
/-- the reference's cut, of a refused statement -/
theorem m_cut1 (h : ia_H) (n G : Nat) (sd : Nat → Bool) (A B : Nat → Nat) (hd : mdOk h n G sd A B) (x : Nat) (hx : x < n) (hk : h.1 62 x = 2) (kk : Int32) (hkk : ¬ kk < -1) (N : Nat) (n2 : ∀ j, j < N → B x ∈ (cuS sd A B (A x) (cuQ sd A B (A x) (B x) j)).1) (n1 : ¬ B x ∈ (cuS sd A B (A x) (cuQ sd A B (A x) (B x) N)).1) : V_ 158 [.ref 52, .int (nI x), .int kk] h (fun r h' => ∃ v, r = some (.int v) ∧ frM h h' ∧ lsA (sel (cuP sd A B (cuS sd A B (A x) (cuQ sd A B (A x) (B x) N)).1) n) kk v) := by
  have hn := hd.1
  obtain ⟨x1, x2, x3, x4, x5, -⟩ := hd.2.2.2.2.1 x hx
  refine ia_V_in ia_k_X8_cut [some (.ref 52), some (.int (nI x)), some (.int kk), none, none] rfl rfl (Nat.le_of_ble_eq_true rfl) rfl ?_
  refine ia_walk (fun pc => Nat.beq pc 27) 60 (fun X hX => ?_)
  conv => whnf
  refine Exists.intro (_, _) (And.intro (ia_callE (m_isSt1 hd.2.2.1 (by omega) hx)) ?_)
  conv => whnf
  refine And.intro (fun c => ?_) (fun c => ?_)
  · exact absurd (show (1 : Int32) = 0 from c) (by decide)
  · conv => whnf
    refine Exists.intro _ (And.intro (And.intro rfl (by omega)) ?_)
    conv => whnf
    refine And.intro (fun c2 => ?_) (fun c2 => ?_)
    · conv => whnf
      refine And.intro (fun c3 => ?_) (fun c3 => ?_)
      · exact absurd c3 hkk
      · conv => whnf
        have l1 := l_mcut1 h n G sd A B hd (nI x) kk (Z := fun r h' => ∃ v, r = some (.int v) ∧ frM h h' ∧ lsA (sel (cuP sd A B (cuS sd A B (A x) (cuQ sd A B (A x) (B x) N)).1) n) kk v) (fun H a3 hf hF => by
          have hdH := mdOk_fr hd hf
          obtain ⟨y1, -, y3, -, -, -⟩ := hdH.2.2.2.2.1 x hx
          obtain ⟨r', h2, evs, w1, I, Q, C, w2, w3, w4⟩ := v_spreads H n G sd A B hdH (A x) x2
          have e0 : bsF (cst sd) (csr A B) (cdt A B) (rmF (H.1 72)) (A x) bs0 = cuS sd A B (A x) (cuQ sd A B (A x) (B x) 0) := bsR_rm2 (rm_ag hd.2.2.2.2.2 hF) _ _ _
          rw [e0] at w2 w3
          subst w1
          subst w4
          rw [← y1] at evs
          refine ia_walk (fun pc => Nat.beq pc 58) 60 (fun X hX => ?_)
          conv => whnf
          refine Exists.intro _ (And.intro (And.intro rfl (by omega)) ?_)
          conv => whnf
          refine Exists.intro (_, _) (And.intro evs ?_)
          conv => whnf
          exact hX _ (l_mcut2 h n G sd A B hd x hx kk (fun j hj => absurd hj (Nat.not_lt_zero j)) none N n2 n1 (fun v H hf hv => ⟨v, rfl, hf, hv⟩) N 0 a3 _ (by omega) (frM_hC hf I Q C) hF w2 w3)) n 0 (h.1 72) (by omega) (fun j hj => absurd hj (Nat.not_lt_zero j))
        rw [hsI_eta] at l1
        exact hX _ l1
    · exact absurd hk c2
theorem m_cut0 (h : ia_H) (n : Nat) (hn : n ≤ 120) (en : h.1 52 10 = nI n) (x kk : Int32) (hb : bad x n ∨ (∃ j, j < n ∧ x = nI j ∧ ¬ h.1 62 j = 2) ∨ kk < -1) : V_ 158 [.ref 52, .int x, .int kk] h (Z_ (.int (-1)) h) := by
  rcases bad_or x (show n < 2 ^ 31 by omega) with hb1 | ⟨j, hj, rfl⟩
  · refine ia_V_in ia_k_X8_cut [some (.ref 52), some (.int x), some (.int kk), none, none] rfl rfl (Nat.le_of_ble_eq_true rfl) rfl ?_
    refine ia_walk (fun _ => false) 50 (fun X hX => ?_)
    conv => whnf
    refine Exists.intro (_, _) (And.intro (ia_callE (m_isSt0 en hb1)) ?_)
    conv => whnf
    refine And.intro (fun c => ?_) (fun c => ?_)
    · conv => whnf
      exact ⟨rfl, rfl⟩
    · exact absurd rfl c
  · have hb2 : ¬ h.1 62 j = 2 ∨ kk < -1 := by
      rcases hb with q | ⟨i, hi, ei, q⟩ | q
      · rcases q with q | q
        · exact absurd q (nI_pos (by omega))
        · exact absurd (nI_lt hj (by omega)) (Int32.not_lt.mpr q)
      · rw [nI_inj (by omega) (by omega) ei]; exact Or.inl q
      · exact Or.inr q
    refine ia_V_in ia_k_X8_cut [some (.ref 52), some (.int (nI j)), some (.int kk), none, none] rfl rfl (Nat.le_of_ble_eq_true rfl) rfl ?_
    refine ia_walk (fun pc => Nat.beq pc 25) 50 (fun X hX => ?_)
    conv => whnf
    refine Exists.intro (_, _) (And.intro (ia_callE (m_isSt1 en (by omega) hj)) ?_)
    conv => whnf
    refine And.intro (fun c => ?_) (fun c => ?_)
    · exact absurd (show (1 : Int32) = 0 from c) (by decide)
    · conv => whnf
      refine Exists.intro _ (And.intro (And.intro rfl (by omega)) ?_)
      conv => whnf
      refine And.intro (fun c2 => ?_) (fun c2 => ?_)
      · conv => whnf
        refine And.intro (fun c3 => ?_) (fun c3 => ?_)
        · conv => whnf
          exact ⟨rfl, rfl⟩
        · exact absurd hb2 (fun q => q.elim (fun z => z c2) c3)
      · conv => whnf
        exact ⟨rfl, rfl⟩
end
section
/-! cut, class and reference side by side -/
/-- a heap like another but for what questions use -/
def frS (h H : ia_H) : Prop := (∀ y, y < 29 ∨ (30 ≤ y ∧ y ≤ 33) ∨ (43 ≤ y ∧ y ≤ 65) ∨ 74 ≤ y → H.1 y = h.1 y) ∧ H.2 = h.2
theorem frS_rfl (h : ia_H) : frS h h := ⟨fun _ _ => rfl, rfl⟩
theorem frS_tr {h H K : ia_H} (h1 : frS h H) (h2 : frS H K) : frS h K := ⟨fun y hy => (h2.1 y hy).trans (h1.1 y hy), h2.2.trans h1.2⟩
theorem frS_W {h H : ia_H} (hf : frW h H) : frS h H := ⟨fun y hy => hf.1 y (by omega) (by omega) (by omega) (by omega) (by omega) (by omega), hf.2⟩
theorem frS_M {h H : ia_H} (hf : frM h H) : frS h H := ⟨fun y hy => hf.1 y (by omega) (by omega) (by omega) (by omega), hf.2⟩
theorem frS_I {h : ia_H} {y : Nat} (hy : ¬ (y < 29 ∨ (30 ≤ y ∧ y ≤ 33) ∨ (43 ≤ y ∧ y ≤ 65) ∨ 74 ≤ y)) (f : Nat → Int32) : frS h (hsI h y f) := by
  refine ⟨fun z hz => ?_, rfl⟩
  show (if z = y then f else h.1 z) = h.1 z
  exact if_neg (show ¬ z = y from fun e => hy (e ▸ hz))
/-- what class and reference know of the statements that stand -/
def wOk (h : ia_H) (n G : Nat) (sd : Nat → Bool) (A B : Nat → Nat) : Prop := mdOk h n G sd A B ∧ h.1 4 7 = nI n ∧ h.1 4 6 = nI G ∧ (∀ s, s < n → h.1 7 s = nI (A s) ∧ h.1 8 s = nI (B s) ∧ h.1 26 s = h.1 62 s) ∧ wbOk h (cst sd) (csr A B) (cdt A B) G ∧ (∀ s, s < 120 → sd s = false → h.1 30 (2 * s) = -1) ∧ (∀ s, s < 120 → A s ≠ B s)
theorem wOk_fr {h H : ia_H} {n G : Nat} {sd : Nat → Bool} {A B : Nat → Nat} (hw : wOk h n G sd A B) (hf : frS h H) : wOk H n G sd A B := by
  obtain ⟨⟨a1, a2, a3, a4, a5, a6⟩, b, c, d, ⟨e1, e2, e3⟩, f, g⟩ := hw
  have x := hf.1
  refine ⟨⟨a1, a2, ?_, ?_, fun s hs => ?_, a6⟩, ?_, ?_, fun s hs => ?_, ⟨fun w h1 h2 => ?_, fun j hj => ?_, ?_⟩, fun s h1 h2 => ?_, g⟩
  · rw [x 52 (by omega)]; exact a3
  · rw [x 52 (by omega)]; exact a4
  · rw [x 56 (by omega), x 57 (by omega), x 62 (by omega)]; exact a5 s hs
  · rw [x 4 (by omega)]; exact b
  · rw [x 4 (by omega)]; exact c
  · rw [x 7 (by omega), x 8 (by omega), x 26 (by omega), x 62 (by omega)]; exact d s hs
  · rw [x 30 (by omega)]; exact e1 w h1 h2
  · rw [x 32 (by omega)]; exact e2 j hj
  · rw [x 31 (by omega)]; exact e3
  · rw [x 30 (by omega)]; exact f s h1 h2
/-- two questions that get one answer -/
abbrev P_ (a : Nat) (as : List Value) (b : Nat) (bs : List Value) (h : ia_H) : Prop := V_ a as h (fun r h1 => frS h h1 ∧ V_ b bs h1 (fun r2 h2 => r2 = r ∧ frS h h2))
theorem P_of {a : Nat} {as : List Value} {b : Nat} {bs : List Value} {h : ia_H} {v : Value} (h1 : V_ a as h (Z_ v h)) (h2 : V_ b bs h (Z_ v h)) : P_ a as b bs h := by
  obtain ⟨r, k, e, e1, e2⟩ := h1
  obtain ⟨r', k', e', e1', e2'⟩ := h2
  subst e1 e2 e1' e2'
  exact ⟨_, _, e, frS_rfl _, _, _, e', rfl, frS_rfl _⟩
theorem v_cut0 (h : ia_H) (n : Nat) (hn : n ≤ 120) (en : h.1 4 7 = nI n) (x kk : Int32) (hb : bad x n ∨ (∃ j, j < n ∧ x = nI j ∧ ¬ h.1 26 j = 2) ∨ kk < -1) : V_ 82 [.ref 0, .int x, .int kk] h (Z_ (.int (-1)) h) := by
  rcases bad_or x (show n < 2 ^ 31 by omega) with hb1 | ⟨j, hj, rfl⟩
  · refine ia_V_in ia_k_X7_cut [some (.ref 0), some (.int x), some (.int kk), none] rfl rfl (Nat.le_of_ble_eq_true rfl) rfl ?_
    refine ia_walk (fun _ => false) 50 (fun X hX => ?_)
    conv => whnf
    refine Exists.intro (_, _) (And.intro (ia_callE (v_isSt0 en hb1)) ?_)
    conv => whnf
    refine And.intro (fun c => ?_) (fun c => ?_)
    · conv => whnf
      exact ⟨rfl, rfl⟩
    · exact absurd rfl c
  · have hb2 : ¬ h.1 26 j = 2 ∨ kk < -1 := by
      rcases hb with q | ⟨i, hi, ei, q⟩ | q
      · rcases q with q | q
        · exact absurd q (nI_pos (by omega))
        · exact absurd (nI_lt hj (by omega)) (Int32.not_lt.mpr q)
      · rw [nI_inj (by omega) (by omega) ei]; exact Or.inl q
      · exact Or.inr q
    refine ia_V_in ia_k_X7_cut [some (.ref 0), some (.int (nI j)), some (.int kk), none] rfl rfl (Nat.le_of_ble_eq_true rfl) rfl ?_
    refine ia_walk (fun pc => Nat.beq pc 28) 50 (fun X hX => ?_)
    conv => whnf
    refine Exists.intro (_, _) (And.intro (ia_callE (v_isSt1 en (by omega) hj)) ?_)
    conv => whnf
    refine And.intro (fun c => ?_) (fun c => ?_)
    · exact absurd (show (1 : Int32) = 0 from c) (by decide)
    · conv => whnf
      refine Exists.intro _ (And.intro (And.intro rfl (by omega)) ?_)
      conv => whnf
      refine And.intro (fun c2 => ?_) (fun c2 => ?_)
      · conv => whnf
        refine And.intro (fun c3 => ?_) (fun c3 => ?_)
        · conv => whnf
          exact ⟨rfl, rfl⟩
        · exact absurd hb2 (fun q => q.elim (fun z => z c2) c3)
      · conv => whnf
        exact ⟨rfl, rfl⟩
/-- what the class answers of its row -/
theorem k_or {kk : Int32} (hkk : ¬ kk < -1) {l : Nat} (hl : l < 2 ^ 31) : kk = -1 ∨ (¬ kk = -1 ∧ nI l ≤ kk) ∨ ∃ j, j < l ∧ kk = nI j := by
  rcases pk_ix kk hl with q | q | q
  · refine Or.inl ?_
    have h1 := Int32.lt_iff_toInt_lt.mp q
    have h2 := mt Int32.lt_iff_toInt_lt.mpr hkk
    refine Int32.toInt_inj.mp ?_
    have e0 : (0 : Int32).toInt = 0 := by decide
    have e1 : (-1 : Int32).toInt = -1 := by decide
    rw [e0] at h1
    rw [e1] at h2
    rw [e1]
    omega
  · refine Or.inr (Or.inl ⟨fun e => ?_, q⟩)
    have h1 := nI_pos hl
    have h2 := Int32.le_iff_toInt_le.mp q
    have h3 := mt Int32.lt_iff_toInt_lt.mpr h1
    rw [e] at h2
    have e0 : (0 : Int32).toInt = 0 := by decide
    have e1 : (-1 : Int32).toInt = -1 := by decide
    rw [e0] at h3
    rw [e1] at h2
    omega
  · exact Or.inr (Or.inr q)
theorem v_cut1 (h : ia_H) (n G : Nat) (sd : Nat → Bool) (A B : Nat → Nat) (hw : wOk h n G sd A B) (x : Nat) (hx : x < n) (hk : h.1 26 x = 2) (kk : Int32) (hkk : ¬ kk < -1) (N : Nat) (hN : N ≤ 119) (n2 : ∀ j, j < N → B x ∈ (cuS sd A B (A x) (cuQ sd A B (A x) (B x) j)).1) (n1 : ¬ B x ∈ (cuS sd A B (A x) (cuQ sd A B (A x) (B x) N)).1) : V_ 82 [.ref 0, .int (nI x), .int kk] h (fun r h' => ∃ v, r = some (.int v) ∧ frW h h' ∧ lsA (sel (cuP sd A B (cuS sd A B (A x) (cuQ sd A B (A x) (B x) N)).1) n) kk v) := by
  obtain ⟨hd, en, eG, hst, hwb, hL, hab⟩ := hw
  have hn := hd.1
  obtain ⟨-, x2, -, x4, -, -⟩ := hd.2.2.2.2.1 x hx
  obtain ⟨e7, e8, -⟩ := hst x hx
  obtain ⟨r', h2, ev, w1, w2, w3⟩ := v_findCut h n G hn hd.2.1 sd A B hd.2.2.2.2.2 hwb hL (A x) (B x) N x2 x4 hN n2 n1
  have es : sel (cuP sd A B (cuS sd A B (A x) (cuQ sd A B (A x) (B x) N)).1) 120 = sel (cuP sd A B (cuS sd A B (A x) (cuQ sd A B (A x) (B x) N)).1) n := sel_stop hn (fun k h1 _ => by unfold cuP; rw [hd.2.2.2.2.2 k h1]; rfl)
  rw [es] at w1 w3
  have hl := sel_len (cuP sd A B (cuS sd A B (A x) (cuQ sd A B (A x) (B x) N)).1) n
  generalize sel (cuP sd A B (cuS sd A B (A x) (cuQ sd A B (A x) (B x) N)).1) n = l at w1 w3 hl ⊢
  subst w1
  rw [← e7, ← e8] at ev
  refine ia_V_in ia_k_X7_cut [some (.ref 0), some (.int (nI x)), some (.int kk), none] rfl rfl (Nat.le_of_ble_eq_true rfl) rfl ?_
  refine ia_walk (fun _ => false) 60 (fun X hX => ?_)
  conv => whnf
  refine Exists.intro (_, _) (And.intro (ia_callE (v_isSt1 en (by omega) hx)) ?_)
  conv => whnf
  refine And.intro (fun c => ?_) (fun c => ?_)
  · exact absurd (show (1 : Int32) = 0 from c) (by decide)
  · conv => whnf
    refine Exists.intro _ (And.intro (And.intro rfl (by omega)) ?_)
    conv => whnf
    refine And.intro (fun c2 => ?_) (fun c2 => ?_)
    · conv => whnf
      refine And.intro (fun c3 => ?_) (fun c3 => ?_)
      · exact absurd c3 hkk
      · conv => whnf
        refine Exists.intro _ (And.intro (And.intro rfl (by omega)) ?_)
        conv => whnf
        refine Exists.intro _ (And.intro (And.intro rfl (by omega)) ?_)
        conv => whnf
        refine Exists.intro (_, _) (And.intro ev ?_)
        rcases k_or hkk (show l.length < 2 ^ 31 by omega) with q | ⟨q0, q⟩ | ⟨j, hj, rfl⟩
        · subst q
          conv => whnf
          refine And.intro (fun c4 => ?_) (fun c4 => ?_)
          · conv => whnf
            refine And.intro (fun c5 => ?_) (fun c5 => ?_)
            · conv => whnf
              exact ⟨_, rfl, w2, Or.inr ⟨fun j hj e => absurd e.symm (nI_nm1 (by omega)), rfl⟩⟩
            · exact absurd rfl c5
          · exact absurd (show (-1 : Int32) < nI l.length from Int32.lt_of_lt_of_le (by decide) (Int32.not_lt.mp (nI_pos (by omega)))) c4
        · conv => whnf
          refine And.intro (fun c4 => ?_) (fun c4 => ?_)
          · exact absurd c4 (Int32.not_lt.mpr q)
          · conv => whnf
            exact ⟨_, rfl, w2, Or.inr ⟨fun j hj e => absurd (show kk < nI l.length by rw [e]; exact nI_lt hj (by omega)) (Int32.not_lt.mpr q), (if_neg q0).symm⟩⟩
        · conv => whnf
          refine And.intro (fun c4 => ?_) (fun c4 => ?_)
          · conv => whnf
            refine And.intro (fun c5 => ?_) (fun c5 => ?_)
            · exact absurd c5 (nI_nm1 (by omega))
            · conv => whnf
              refine Exists.intro _ (And.intro (And.intro rfl (by omega)) ?_)
              conv => whnf
              exact ⟨_, rfl, w2, Or.inl ⟨j, hj, rfl, w3 j hj⟩⟩
          · exact absurd (nI_lt hj (by omega)) c4
    · exact absurd hk c2
theorem q_cut {h : ia_H} {n G : Nat} {sd : Nat → Bool} {A B : Nat → Nat} (hw : wOk h n G sd A B) (x kk : Int32) : P_ 82 [.ref 0, .int x, .int kk] 158 [.ref 52, .int x, .int kk] h := by
  have hn := hw.1.1
  have e1 := hw.2.1
  have e2 := hw.1.2.2.1
  rcases bad_or x (show n < 2 ^ 31 by omega) with hb | ⟨j, hj, rfl⟩
  · exact P_of (v_cut0 h n hn e1 x kk (Or.inl hb)) (m_cut0 h n hn e2 x kk (Or.inl hb))
  · obtain ⟨-, -, ek⟩ := hw.2.2.2.1 j hj
    by_cases hk : h.1 26 j = 2
    · by_cases hkk : kk < -1
      · exact P_of (v_cut0 h n hn e1 _ kk (Or.inr (Or.inr hkk))) (m_cut0 h n hn e2 _ kk (Or.inr (Or.inr hkk)))
      · obtain ⟨-, x2, -, x4, -, x6⟩ := hw.1.2.2.2.2.1 j hj
        have hs0 : sd j = false := by rw [x6, ← ek, hk]; rfl
        have hdt : ∀ w, w < 240 → cst sd w = true → cdt A B w < G := fun w h1 h2 => (md_dt hw.1 w h1 h2).1
        obtain ⟨N, hN, n2, n1⟩ := cu_end (o := B j) hw.1.2.1 hdt x2 (fun e => hw.2.2.2.2.2.2 j (by omega) e.symm) hw.2.2.2.2.2.2 (show j < 120 by omega) hs0
        obtain ⟨r, h1, ev, v, z1, z2, z3⟩ := v_cut1 h n G sd A B hw j hj hk kk hkk N hN n2 n1
        have hw1 := wOk_fr hw (frS_W z2)
        obtain ⟨r', h2, ev', v', y1, y2, y3⟩ := m_cut1 h1 n G sd A B hw1.1 j hj (by rw [← (hw1.2.2.2.1 j hj).2.2, (frS_W z2).1 26 (by omega)]; exact hk) kk hkk N n2 n1
        refine ⟨r, h1, ev, frS_W z2, r', h2, ev', ?_, frS_tr (frS_W z2) (frS_M y2)⟩
        have hl := sel_len (cuP sd A B (cuS sd A B (A j) (cuQ sd A B (A j) (B j) N)).1) n
        rw [y1, z1, lsA_eq (by omega) y3 z3]
    · have hk2 : ¬ h.1 62 j = 2 := by rw [← ek]; exact hk
      exact P_of (v_cut0 h n hn e1 _ kk (Or.inr (Or.inl ⟨j, hj, rfl, hk⟩))) (m_cut0 h n hn e2 _ kk (Or.inr (Or.inl ⟨j, hj, rfl, hk2⟩)))
end
