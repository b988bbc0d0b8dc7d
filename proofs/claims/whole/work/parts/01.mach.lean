/-! ===== the small machine: frames over a store of int and long rows; its own words for javac's listing ===== -/
abbrev mx_Sh : Type := (Nat × Nat) ⊕ (Nat × List Nat) ⊕ (Nat × List Nat)
abbrev mx_D : Type := Nat → Nat → Int32
abbrev mx_E : Type := Nat → Nat → Int64
abbrev mx_L : Type := List (Option Value)
abbrev mx_S : Type := Nat × mx_L × List Value × mx_D × mx_E
/-- lists by place -/
def mx_nth {α : Type} : List α → Nat → Option α
  | [], _ => none
  | a :: _, 0 => some a
  | _ :: l, k + 1 => mx_nth l k
theorem mx_nth_eq {α : Type} : ∀ (l : List α) (k : Nat), mx_nth l k = l[k]?
  | [], k => by simp [mx_nth]
  | a :: l, 0 => by simp [mx_nth]
  | a :: l, k + 1 => by simp [mx_nth, mx_nth_eq l k]
def mx_put {α : Type} : List α → Nat → α → List α
  | [], _, _ => []
  | _ :: l, 0, v => v :: l
  | a :: l, k + 1, v => a :: mx_put l k v
theorem mx_put_eq {α : Type} : ∀ (l : List α) (k : Nat) (v : α), mx_put l k v = l.set k v
  | [], k, v => by simp [mx_put]
  | a :: l, 0, v => by simp [mx_put]
  | a :: l, k + 1, v => by simp [mx_put, mx_put_eq l k v]
/-- a long that stands just below a place goes when the place is written -/
def mx_low (L : mx_L) : Nat → mx_L
  | 0 => L
  | k + 1 => match mx_nth L k with
    | some (some (.long _)) => mx_put L k none
    | some (some (.double _)) => mx_put L k none
    | _ => L
def mx_st1 (L : mx_L) (i : Nat) (v : Value) : mx_L := mx_put (mx_low L i) i (some v)
def mx_st2 (L : mx_L) (i : Nat) (v : Value) : mx_L := mx_put (mx_put (mx_low L i) i (some v)) (i + 1) none
def mx_go (t : Int) (f : Nat → Option mx_S) : Option mx_S := match t with
  | .ofNat n => f n
  | .negSucc _ => none
/-- how long an instruction is (0: a switch, as long as it is) -/
def mx_len : Instr → Nat
  | .aload _ | .astore _ | .bipush _ | .iload _ | .istore _ | .lload _ | .lstore _ | .ldc _ | .newarray _ => 2
  | .getfield _ | .putfield _ | .getstatic _ | .goto _ | .if_icmp _ _ | .ifCond _ _ | .iinc _ _ | .invokespecial _ | .invokestatic _ | .invokevirtual _ | .ldc_w _ | .ldc2_w _ | .new _ | .sipush _ | .anewarray _ => 3
  | .tableswitch _ _ _ _ | .lookupswitch _ _ => 0
  | _ => 1
section MA
variable (fl : Nat → Nat → Option (Nat × Nat × Nat × Bool)) (ko : Nat → Nat → Option Value) (gs : Nat → Nat → Option Nat) (ck : Nat → Nat → Option (Nat × Nat × Nat)) (lay : Nat → Option mx_Sh) (ext : Nat → Option (Nat × (Nat → Int32)))
/-- an int row's place: read -/
def mx_iald (ty : Nat) (a : Nat) (i : Int32) (D : mx_D) : Option Int32 := match lay a with
  | some (.inl (t, n)) => if t = ty then (if i < 0 ∨ n ≤ i.toNatClampNeg then none else some (D a i.toNatClampNeg)) else none
  | _ => none
/-- one instruction that is neither a call nor a return -/
def mx_ins (d y : Nat) (i : Instr) (S : mx_S) : Option mx_S := match S with
  | (pc, L, st, D, E) => match i with
    | .iconst n => some (pc + 1, L, .int (Int32.ofInt n) :: st, D, E)
    | .bipush n => some (pc + 2, L, .int (Int8.ofInt n).toInt32 :: st, D, E)
    | .sipush n => some (pc + 3, L, .int (Int16.ofInt n).toInt32 :: st, D, E)
    | .lconst n => some (pc + 1, L, .long (Int64.ofNat (n : Nat)) :: st, D, E)
    | .iload_n k => match mx_nth L k with
      | some (some (.int x)) => some (pc + 1, L, .int x :: st, D, E)
      | _ => none
    | .iload k => match mx_nth L k with
      | some (some (.int x)) => some (pc + 2, L, .int x :: st, D, E)
      | _ => none
    | .lload_n k => match mx_nth L k with
      | some (some (.long x)) => some (pc + 1, L, .long x :: st, D, E)
      | _ => none
    | .lload k => match mx_nth L k with
      | some (some (.long x)) => some (pc + 2, L, .long x :: st, D, E)
      | _ => none
    | .aload_n k => match mx_nth L k with
      | some (some (.ref x)) => some (pc + 1, L, .ref x :: st, D, E)
      | _ => none
    | .aload k => match mx_nth L k with
      | some (some (.ref x)) => some (pc + 2, L, .ref x :: st, D, E)
      | _ => none
    | .istore_n k => match st with
      | .int x :: r => if (k : Nat) < L.length then some (pc + 1, mx_st1 L k (.int x), r, D, E) else none
      | _ => none
    | .istore k => match st with
      | .int x :: r => if k < L.length then some (pc + 2, mx_st1 L k (.int x), r, D, E) else none
      | _ => none
    | .lstore_n k => match st with
      | .long x :: r => if (k : Nat) + 1 < L.length then some (pc + 1, mx_st2 L k (.long x), r, D, E) else none
      | _ => none
    | .lstore k => match st with
      | .long x :: r => if k + 1 < L.length then some (pc + 2, mx_st2 L k (.long x), r, D, E) else none
      | _ => none
    | .astore_n k => match st with
      | .ref x :: r => if (k : Nat) < L.length then some (pc + 1, mx_st1 L k (.ref x), r, D, E) else none
      | _ => none
    | .astore k => match st with
      | .ref x :: r => if k < L.length then some (pc + 2, mx_st1 L k (.ref x), r, D, E) else none
      | _ => none
    | .iinc k n => match mx_nth L k with
      | some (some (.int x)) => some (pc + 3, mx_st1 L k (.int (x + Int32.ofInt n)), st, D, E)
      | _ => none
    | .iadd => match st with
      | .int y :: .int x :: r => some (pc + 1, L, .int (x + y) :: r, D, E)
      | _ => none
    | .isub => match st with
      | .int y :: .int x :: r => some (pc + 1, L, .int (x - y) :: r, D, E)
      | _ => none
    | .imul => match st with
      | .int y :: .int x :: r => some (pc + 1, L, .int (x * y) :: r, D, E)
      | _ => none
    | .iand => match st with
      | .int y :: .int x :: r => some (pc + 1, L, .int (x &&& y) :: r, D, E)
      | _ => none
    | .ior => match st with
      | .int y :: .int x :: r => some (pc + 1, L, .int (x ||| y) :: r, D, E)
      | _ => none
    | .ixor => match st with
      | .int y :: .int x :: r => some (pc + 1, L, .int (x ^^^ y) :: r, D, E)
      | _ => none
    | .idiv => match st with
      | .int y :: .int x :: r => if y = 0 then none else some (pc + 1, L, .int (x / y) :: r, D, E)
      | _ => none
    | .irem => match st with
      | .int y :: .int x :: r => if y = 0 then none else some (pc + 1, L, .int (x - x / y * y) :: r, D, E)
      | _ => none
    | .ineg => match st with
      | .int x :: r => some (pc + 1, L, .int (-x) :: r, D, E)
      | _ => none
    | .ishl => match st with
      | .int y :: .int x :: r => some (pc + 1, L, .int (x <<< (y &&& 31)) :: r, D, E)
      | _ => none
    | .ishr => match st with
      | .int y :: .int x :: r => some (pc + 1, L, .int (x >>> (y &&& 31)) :: r, D, E)
      | _ => none
    | .iushr => match st with
      | .int y :: .int x :: r => some (pc + 1, L, .int (x.toUInt32 >>> (y.toUInt32 &&& Int32.toUInt32 31)).toInt32 :: r, D, E)
      | _ => none
    | .ladd => match st with
      | .long y :: .long x :: r => some (pc + 1, L, .long (x + y) :: r, D, E)
      | _ => none
    | .lmul => match st with
      | .long y :: .long x :: r => some (pc + 1, L, .long (x * y) :: r, D, E)
      | _ => none
    | .land => match st with
      | .long y :: .long x :: r => some (pc + 1, L, .long (x &&& y) :: r, D, E)
      | _ => none
    | .lor => match st with
      | .long y :: .long x :: r => some (pc + 1, L, .long (x ||| y) :: r, D, E)
      | _ => none
    | .ldiv => match st with
      | .long y :: .long x :: r => if y = 0 then none else some (pc + 1, L, .long (x / y) :: r, D, E)
      | _ => none
    | .lrem => match st with
      | .long y :: .long x :: r => if y = 0 then none else some (pc + 1, L, .long (x - x / y * y) :: r, D, E)
      | _ => none
    | .lshl => match st with
      | .int y :: .long x :: r => some (pc + 1, L, .long (x <<< (y.toInt64 &&& 63)) :: r, D, E)
      | _ => none
    | .lshr => match st with
      | .int y :: .long x :: r => some (pc + 1, L, .long (x >>> (y.toInt64 &&& 63)) :: r, D, E)
      | _ => none
    | .lcmp => match st with
      | .long y :: .long x :: r => some (pc + 1, L, .int (lg_cmp x y) :: r, D, E)
      | _ => none
    | .i2l => match st with
      | .int x :: r => some (pc + 1, L, .long x.toInt64 :: r, D, E)
      | _ => none
    | .l2i => match st with
      | .long x :: r => some (pc + 1, L, .int x.toInt32 :: r, D, E)
      | _ => none
    | .i2b => match st with
      | .int x :: r => some (pc + 1, L, .int x.toInt8.toInt32 :: r, D, E)
      | _ => none
    | .i2s => match st with
      | .int x :: r => some (pc + 1, L, .int x.toInt16.toInt32 :: r, D, E)
      | _ => none
    | .dup => match st with
      | .int x :: r => some (pc + 1, L, .int x :: .int x :: r, D, E)
      | .ref x :: r => some (pc + 1, L, .ref x :: .ref x :: r, D, E)
      | _ => none
    | .dup2 => match st with
      | .int x :: .ref a :: r => some (pc + 1, L, .int x :: .ref a :: .int x :: .ref a :: r, D, E)
      | _ => none
    | .pop => match st with
      | .int _ :: r => some (pc + 1, L, r, D, E)
      | _ => none
    | .goto off => mx_go ((pc : Int) + off) fun t => some (t, L, st, D, E)
    | .ifCond c off => match st with
      | .int x :: r => mx_go ((pc : Int) + off) fun t => match c with
        | .eq => if x = 0 then some (t, L, r, D, E) else some (pc + 3, L, r, D, E)
        | .ne => if x = 0 then some (pc + 3, L, r, D, E) else some (t, L, r, D, E)
        | .lt => if x < 0 then some (t, L, r, D, E) else some (pc + 3, L, r, D, E)
        | .ge => if 0 ≤ x then some (t, L, r, D, E) else some (pc + 3, L, r, D, E)
        | .gt => if 0 < x then some (t, L, r, D, E) else some (pc + 3, L, r, D, E)
        | .le => if x ≤ 0 then some (t, L, r, D, E) else some (pc + 3, L, r, D, E)
      | _ => none
    | .if_icmp c off => match st with
      | .int y :: .int x :: r => mx_go ((pc : Int) + off) fun t => match c with
        | .eq => if x = y then some (t, L, r, D, E) else some (pc + 3, L, r, D, E)
        | .ne => if x = y then some (pc + 3, L, r, D, E) else some (t, L, r, D, E)
        | .lt => if x < y then some (t, L, r, D, E) else some (pc + 3, L, r, D, E)
        | .ge => if y ≤ x then some (t, L, r, D, E) else some (pc + 3, L, r, D, E)
        | .gt => if y < x then some (t, L, r, D, E) else some (pc + 3, L, r, D, E)
        | .le => if x ≤ y then some (t, L, r, D, E) else some (pc + 3, L, r, D, E)
      | _ => none
    | .tableswitch dflt lo hi offs => match st with
      | .int x :: r => if x.toInt < lo ∨ hi < x.toInt then mx_go ((pc : Int) + dflt) fun t => some (t, L, r, D, E)
        else match offs[(x.toInt - lo).toNat]? with
          | some off => mx_go ((pc : Int) + off) fun t => some (t, L, r, D, E)
          | none => none
      | _ => none
    | .ldc idx => match ko y idx with
      | some (.int v) => some (pc + 2, L, .int v :: st, D, E)
      | some (.ref k) => some (pc + 2, L, .ref k :: st, D, E)
      | _ => none
    | .ldc_w idx => match ko y idx with
      | some (.int v) => some (pc + 3, L, .int v :: st, D, E)
      | _ => none
    | .ldc2_w idx => match ko y idx with
      | some (.long v) => some (pc + 3, L, .long v :: st, D, E)
      | _ => none
    | .getstatic idx => match gs y idx with
      | some k => some (pc + 3, L, .ref k :: st, D, E)
      | none => none
    | .getfield idx => match st with
      | .ref a :: r => match fl y idx, lay a with
        | some (ci, j, _, _), some (.inr (.inr (ci', fs))) => if ci = ci' then match mx_nth fs j with
            | some 0 => some (pc + 3, L, .int (D a j) :: r, D, E)
            | some 1 => some (pc + 3, L, .long (E a j) :: r, D, E)
            | some (b + 2) => some (pc + 3, L, .ref b :: r, D, E)
            | none => none
          else none
        | _, _ => none
      | _ => none
    | .putfield idx => match st with
      | .int x :: .ref a :: r => match fl y idx, lay a with
        | some (ci, j, ty, true), some (.inr (.inr (ci', fs))) => if ci = ci' then match mx_nth fs j with
            | some 0 => if ty = 0 ∨ (ty = 1 ∧ (x = 0 ∨ x = 1)) then some (pc + 3, L, r, va_up D a (upd (D a) j x), E) else none
            | _ => none
          else none
        | _, _ => none
      | .long x :: .ref a :: r => match fl y idx, lay a with
        | some (ci, j, 2, true), some (.inr (.inr (ci', fs))) => if ci = ci' then match mx_nth fs j with
            | some 1 => some (pc + 3, L, r, D, va_up E a (vp_updL (E a) j x))
            | _ => none
          else none
        | _, _ => none
      | _ => none
    | .arraylength => match st with
      | .ref a :: r => match ext a with
        | some (n, _) => some (pc + 1, L, .int (Int32.ofNat n) :: r, D, E)
        | none => match lay a with
          | some (.inl (_, n)) => some (pc + 1, L, .int (Int32.ofNat n) :: r, D, E)
          | some (.inr (.inl (_, rs))) => some (pc + 1, L, .int (Int32.ofNat rs.length) :: r, D, E)
          | _ => none
      | _ => none
    | .iaload => match st with
      | .int i :: .ref a :: r => match ext a with
        | some (n, f) => if i < 0 ∨ n ≤ i.toNatClampNeg then none else some (pc + 1, L, .int (f i.toNatClampNeg) :: r, D, E)
        | none => match lay a with
          | some (.inl (0, n)) => if i < 0 ∨ n ≤ i.toNatClampNeg then none else some (pc + 1, L, .int (D a i.toNatClampNeg) :: r, D, E)
          | _ => none
      | _ => none
    | .baload => match st with
      | .int i :: .ref a :: r => match lay a with
        | some (.inl (1, n)) => if i < 0 ∨ n ≤ i.toNatClampNeg then none else some (pc + 1, L, .int (D a i.toNatClampNeg) :: r, D, E)
        | some (.inl (2, n)) => if i < 0 ∨ n ≤ i.toNatClampNeg then none else some (pc + 1, L, .int (D a i.toNatClampNeg) :: r, D, E)
        | _ => none
      | _ => none
    | .laload => match st with
      | .int i :: .ref a :: r => match lay a with
        | some (.inl (3, n)) => if i < 0 ∨ n ≤ i.toNatClampNeg then none else some (pc + 1, L, .long (E a i.toNatClampNeg) :: r, D, E)
        | _ => none
      | _ => none
    | .aaload => match st with
      | .int i :: .ref a :: r => match lay a with
        | some (.inr (.inl (_, rs))) => if i < 0 then none else match mx_nth rs i.toNatClampNeg with
            | some b => some (pc + 1, L, .ref b :: r, D, E)
            | none => none
        | _ => none
      | _ => none
    | .iastore => match st with
      | .int x :: .int i :: .ref a :: r => match lay a with
        | some (.inl (0, n)) => if i < 0 ∨ n ≤ i.toNatClampNeg then none else some (pc + 1, L, r, va_up D a (upd (D a) i.toNatClampNeg x), E)
        | _ => none
      | _ => none
    | .bastore => match st with
      | .int x :: .int i :: .ref a :: r => match lay a with
        | some (.inl (1, n)) => if i < 0 ∨ n ≤ i.toNatClampNeg then none else some (pc + 1, L, r, va_up D a (upd (D a) i.toNatClampNeg (vp_nar .byte x)), E)
        | some (.inl (2, n)) => if i < 0 ∨ n ≤ i.toNatClampNeg then none else some (pc + 1, L, r, va_up D a (upd (D a) i.toNatClampNeg (vp_nar .boolean x)), E)
        | _ => none
      | _ => none
    | .lastore => match st with
      | .long x :: .int i :: .ref a :: r => match lay a with
        | some (.inl (3, n)) => if i < 0 ∨ n ≤ i.toNatClampNeg then none else some (pc + 1, L, r, D, va_up E a (vp_updL (E a) i.toNatClampNeg x))
        | _ => none
      | _ => none
    | .invokestatic idx => match ck y idx, d with
      | some (5, _, _), _ + 1 => match st with
        | .int n :: .int dp :: .ref a :: .int sp :: .ref a0 :: r => match lay a0, lay a with
          | some (.inl (0, n0)), some (.inl (0, n1)) => if sp < 0 ∨ dp < 0 ∨ n < 0 ∨ n0 < sp.toNatClampNeg + n.toNatClampNeg ∨ n1 < dp.toNatClampNeg + n.toNatClampNeg ∨ 8 < (r.map fun v => v.category).sum then none
            else some (pc + 3, L, r, va_up D a (va_cpy (D a0) (D a) sp.toNatClampNeg dp.toNatClampNeg n.toNatClampNeg), E)
          | some (.inl (3, n0)), some (.inl (3, n1)) => if sp < 0 ∨ dp < 0 ∨ n < 0 ∨ n0 < sp.toNatClampNeg + n.toNatClampNeg ∨ n1 < dp.toNatClampNeg + n.toNatClampNeg ∨ 8 < (r.map fun v => v.category).sum then none
            else some (pc + 3, L, r, D, va_up E a (va_cpy (E a0) (E a) sp.toNatClampNeg dp.toNatClampNeg n.toNatClampNeg))
          | _, _ => none
        | _ => none
      | some (6, _, _), _ + 1 => match st with
        | .int y :: .int x :: r => if 8 < (r.map fun v => v.category).sum then none else some (pc + 3, L, .int (if y < x then y else x) :: r, D, E)
        | _ => none
      | some (7, _, _), _ + 1 => match st with
        | .int y :: .int x :: r => if 8 < (r.map fun v => v.category).sum then none else some (pc + 3, L, .int (if x < y then y else x) :: r, D, E)
        | _ => none
      | _, _ => none
    | _ => none
end MA
/-- the locals with which a method begins -/
def mx_ent (maxL : Nat) (args : List Value) : mx_L := (args.flatMap fun v => if v.category = 2 then [some v, none] else [some v]) ++ List.replicate (maxL - (args.flatMap fun v => if v.category = 2 then [some v, none] else [some v]).length) none
