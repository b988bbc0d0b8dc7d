/-! ===== frames, calls and returns of the small machine ===== -/
def mx_fin (ret : Option FieldType) (i : Instr) (S : mx_S) : Option (Option Value × mx_D × mx_E) := match S with
  | (_, _, st, D, E) => match i with
    | .ireturn => match st, ret with
      | [.int v], some .int => some (some (.int v), D, E)
      | [.int v], some .boolean => if v = 0 ∨ v = 1 then some (some (.int v), D, E) else none
      | _, _ => none
    | .lreturn => match st, ret with
      | [.long v], some .long => some (some (.long v), D, E)
      | _, _ => none
    | .return_ => match st, ret with
      | [], none => some (none, D, E)
      | _, _ => none
    | _ => none
def mx_len1 (as : List Value) : Nat := (as.flatMap fun v => if v.category = 2 then [some v, none] else [some v]).length
abbrev mx_R : Type := Option (Option Value × mx_D × mx_E)
section MR
variable (cd : Nat → Nat → Option Instr) (mt : Nat → Option (MethodName × ByteArray × Nat × Option FieldType)) (cz : Nat → Nat) (sp : Nat → List Value → Option Value)
variable (fl : Nat → Nat → Option (Nat × Nat × Nat × Bool)) (ko : Nat → Nat → Option Value) (gs : Nat → Nat → Option Nat) (ck : Nat → Nat → Option (Nat × Nat × Nat)) (lay : Nat → Option mx_Sh) (ext : Nat → Option (Nat × (Nat → Int32)))
/-- who is called: kind, method, arguments, what stays on the stack -/
def mx_cal (y : Nat) (i : Instr) (st : List Value) : Option (Nat × Nat × List Value × List Value) := match i with
  | .invokevirtual idx => match ck y idx with
    | some (0, z, n) => match st.drop n with
      | .ref b :: rest => match lay b with
        | some (.inr (.inr (ci, _))) => if ci = cz z ∧ (st.take n).length = n ∧ (rest.map fun v => v.category).sum ≤ 8 then some (0, z, .ref b :: (st.take n).reverse, rest) else none
        | _ => none
      | _ => none
    | some (3, z, n) => match st.drop n with
      | .ref b :: rest => if (st.take n).length = n ∧ (rest.map fun v => v.category).sum ≤ 8 then some (3, z, .ref b :: (st.take n).reverse, rest) else none
      | _ => none
    | _ => none
  | .invokestatic idx => match ck y idx with
    | some (1, z, n) => if (st.take n).length = n ∧ ((st.drop n).map fun v => v.category).sum ≤ 8 then some (1, z, (st.take n).reverse, st.drop n) else none
    | _ => none
  | _ => none
/-- one step within a frame: a call is run to its end -/
def mx_stp (run : Nat → Nat → mx_S → mx_R) (d y : Nat) (S : mx_S) : Option mx_S := match cd y S.1 with
  | some i => match mx_cal cz ck lay y i S.2.2.1 with
    | some (k, z, as, rest) => match d with
      | 0 => none
      | d' + 1 => if k = 3 then match sp z as with
            | some v => if d' < 8 then none else some (S.1 + 3, S.2.1, v :: rest, S.2.2.2.1, S.2.2.2.2)
            | none => none
          else match mt z with
            | some (_, _, mL, _) => if mL < mx_len1 as then none else match run d' z (0, mx_ent mL as, [], S.2.2.2.1, S.2.2.2.2) with
                | some (v, D', E') => some (S.1 + 3, S.2.1, v.toList ++ rest, D', E')
                | none => none
            | none => none
    | none => mx_ins fl ko gs ck lay ext d y i S
  | none => none
def mx_end (y : Nat) (S : mx_S) : mx_R := match mt y, cd y S.1 with
  | some (_, _, _, ret), some i => mx_fin ret i S
  | _, _ => none
/-- a frame run to its end, with so many steps, so deep -/
def mx_run : Nat → Nat → Nat → mx_S → mx_R
  | 0 => fun _ _ _ => none
  | f + 1 => fun d y S => match mx_end cd mt y S with
    | some r => some r
    | none => match mx_stp cd mt cz sp fl ko gs ck lay ext (mx_run f) d y S with
      | some S' => mx_run f d y S'
      | none => none
end MR
/-- the world of a store in a state -/
def mx_Wd (base : Nat) (ad : Nat → Nat) (cid : Nat → ClassId) (lay : Nat → Option mx_Sh) (N : Nat) (Dg : va_G) (cl : List vw_C) (tys : List (ClassId × FieldType)) (Ext : State → Prop) (D : mx_D) (E : mx_E) (U : State) : Prop :=
  base ≤ U.heap.size ∧ va_P Dg cl (mx_wl ad cid lay N D E) U.heap ∧ va_K Dg cl tys U ∧ va_D (mx_A base) (mx_wl ad cid lay N D E) ∧ Ext U
def mx_Q (base : Nat) (ad : Nat → Nat) (cid : Nat → ClassId) (lay : Nat → Option mx_Sh) (N : Nat) (Dg : va_G) (cl : List vw_C) (tys : List (ClassId × FieldType)) (Ext : State → Prop) (r : Option Value) (D : mx_D) (E : mx_E) : Array Value → State → Outcome → State → Prop := fun _ st oc t =>
  oc = .returned (r.map (mx_av ad)) ∧ mx_Wd base ad cid lay N Dg cl tys Ext D E t ∧ va_F (mx_A base) st t
def mx_okM (cd : Nat → Nat → Option Instr) (mt : Nat → Option (MethodName × ByteArray × Nat × Option FieldType)) (fl : Nat → Nat → Option (Nat × Nat × Nat × Bool)) (ko : Nat → Nat → Option Value) (gs : Nat → Nat → Option Nat) (ck : Nat → Nat → Option (Nat × Nat × Nat)) (ad : Nat → Nat) (base : Nat) (GW : List Cond) (cl : List vw_C) (Ext : State → Prop) : Prop :=
  ∀ (y : Nat) (nm : MethodName) (bs : ByteArray) (mL : Nat) (ret : Option FieldType), mt y = some (nm, bs, mL, ret) → plainName nm.cls = true ∧ mL ≤ 45 ∧ (∀ pc i, cd y pc = some i → ∃ n, decode bs pc = .ok (i, n) ∧ (n = mx_len i ∨ mx_len i = 0)) ∧ mx_okF fl cl GW y nm.cls ∧ mx_okK ko ad GW Ext y nm.cls ∧ mx_okG gs ad base GW Ext y nm.cls ∧ mx_okA ck GW y nm.cls
def mx_okN (mt : Nat → Option (MethodName × ByteArray × Nat × Option FieldType)) (cz : Nat → Nat) (ck : Nat → Nat → Option (Nat × Nat × Nat)) (GW : List Cond) (cl : List vw_C) : Prop :=
  ∀ (y idx k z n : Nat), ck y idx = some (k, z, n) → 5 ≤ k ∨ ∀ (q u : MethodName × ByteArray × Nat × Option FieldType), mt y = some q → mt z = some u → Cond.methodLink q.1.cls idx u.1 ∈ GW ∧ Cond.initialized u.1.cls ∈ GW ∧ (u.1.cls ≠ "java/lang/invoke/MethodHandle" ∧ u.1.cls ≠ "java/lang/invoke/VarHandle" ∧ (parseMethodDescriptor u.1.desc).map (fun d => d.parameters.length) = some n) ∧ (k = 1 → Cond.static u.1 ∈ GW) ∧ (k = 0 ∨ k = 3 → Cond.instanceMethod u.1 ∈ GW ∧ Cond.selects u.1.cls u.1 u.1 ∈ GW) ∧ (k = 0 → ∃ r, cl[cz z]? = some r ∧ r.1 = u.1.cls) ∧ Cond.code u.1 u.2.1 u.2.2.1 u.2.2.2 ∈ GW
section MC
variable {ad : Nat → Nat} {cid : Nat → ClassId} {lay : Nat → Option mx_Sh} {N base : Nat} {GW : List Cond} {cl : List vw_C} {Dg : va_G} {tys : List (ClassId × FieldType)} {Ext : State → Prop}
variable {p : Program} {l : Launch} {e : Env} {R : Room} {s : State} {m : MethodId} {args : Array Value} {below : List Frame} {meth : Method} {c : Code} {H : Heap} {locs : List Loc} {cells slots : Nat} {Q : State → Prop}
theorem mx_call {pc : Nat} {ls : Array Slot} {st0 rest : List Value} {r : Option Value} {D' : mx_D} {E' : mx_E} {a : Array Value} (hr : va_Run p l e R s m args below meth c H locs cells slots 0 0 (F0 m pc ls st0) rest (mx_Q base ad cid lay N Dg cl tys Ext r D' E' a) (mx_A base)) (hS : va_S (mx_A base) s.heap H locs)
    (kk : ∀ (H1 : Heap) (locs1 : List Loc), va_P Dg cl (mx_wl ad cid lay N D' E') H1 → va_S (mx_A base) s.heap H1 locs1 → W p l e R s m args below meth c H1 locs1 cells slots Q (F0 m (pc + 3) ls ((r.map (mx_av ad)).toList ++ rest))) : W p l e R s m args below meth c H locs cells slots Q (F0 m pc ls st0) := by
  intro T hT X
  obtain ⟨v, st₀, t, T', L, h0, X', hL, e1, e2, ⟨hv, hw, hz, hk⟩, st⟩ := hr T hT X
  obtain rfl : v = r.map (mx_av ad) := Outcome.returned.inj hv
  rw [h0] at hz hk
  obtain ⟨t2, a1, b1⟩ := kk T'.heap (locs ++ L) (by rw [e1]; exact hw.2.1)
    ⟨Nat.le_trans hS.1 (by rw [e1]; exact hz), fun q h1 h2 => by rw [e1, hk q (Nat.lt_of_lt_of_le h1 hS.1) h2]; exact hS.2.1 q h1 h2, fun q hq => by
      rcases List.mem_append.mp hq with h | h
      · exact hS.2.2 q h
      · exact hL q h⟩ T' rfl X'
  exact ⟨t2, st t2 a1, b1⟩
theorem mx_good {nm : MethodName} {bs : ByteArray} {mL : Nat} {ret : Option FieldType} (hG : ∀ w ∈ GW, goodWord w = true) (hc : Cond.code nm bs mL ret ∈ GW) : GoodIn GW (Cond.code nm bs mL ret :: GW) := by
  intro w hw
  have : w ∈ GW := by
    rcases List.mem_cons.mp hw with rfl | h
    · exact hc
    · exact h
  exact ⟨this, good_of_word (hG w this)⟩
end MC
