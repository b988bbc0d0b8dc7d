/-! ===== the small machine that makes cells: for constructors and the law's beginning ===== -/
/-- a row of ints, all 0 but what was written, the last first -/
def al_fn : List (Nat × Int32) → Nat → Int32
  | [] => fun _ => 0
  | (i, x) :: l => upd (al_fn l) i x
abbrev al_E : Type := (Nat × Nat × List (Nat × Int32)) ⊕ (Nat × List (Option Nat)) ⊕ (Nat × List Value)
def al_ce (ad : Nat → Nat) (cid : Nat → ClassId) : al_E → va_E
  | .inl (t, n, f) => if t = 3 then .inl (cid 3, n, .inr (.inl (fun _ => 0))) else .inl (cid t, n, .inl (al_fn f))
  | .inr (.inl (t, rs)) => .inl (cid t, rs.length, .inr (.inr (.inr (.inr (fun j => (rs.getD j none).map ad)))))
  | .inr (.inr (ci, fs)) => .inr (ci, fs.map (mx_av ad))
/-- every reference is below n -/
def al_okv (n : Nat) : Value → Bool
  | .ref k => Nat.blt k n
  | _ => true
def al_oke (n : Nat) : al_E → Bool
  | .inl _ => true
  | .inr (.inl (_, rs)) => rs.all fun r => match r with
    | some k => Nat.blt k n
    | none => true
  | .inr (.inr (_, fs)) => fs.all (al_okv n)
def al_okl (n : Nat) : Option Value → Bool
  | some v => al_okv n v
  | none => true
def al_ad (as : List Nat) : Nat → Nat := fun k => as.getD k 0
def al_wl (ad : Nat → Nat) (cid : Nat → ClassId) (as : List Nat) (G : List al_E) : va_W := (as.zip G).map fun p => (p.1, al_ce ad cid p.2)
theorem al_ad_app (as : List Nat) (b : List Nat) {k : Nat} (hk : k < as.length) : al_ad (as ++ b) k = al_ad as k := by
  unfold al_ad
  rw [List.getD_eq_getElem?_getD, List.getD_eq_getElem?_getD, List.getElem?_append_left hk]
theorem al_av_congr {ad ad' : Nat → Nat} {n : Nat} (h : ∀ k, k < n → ad' k = ad k) {v : Value} (hv : al_okv n v = true) : mx_av ad' v = mx_av ad v := by
  cases v with
  | ref k => simp only [mx_av, h k (Nat.le_of_ble_eq_true hv)]
  | _ => rfl
theorem al_ce_congr {ad ad' : Nat → Nat} {cid : Nat → ClassId} {n : Nat} (h : ∀ k, k < n → ad' k = ad k) {e : al_E} (he : al_oke n e = true) : al_ce ad' cid e = al_ce ad cid e := by
  match e, he with
  | .inl (t, m, f), _ => rfl
  | .inr (.inl (t, rs)), he =>
    simp only [al_ce]
    have : (fun j => (rs.getD j none).map ad') = (fun j => (rs.getD j none).map ad) := by
      funext j
      rw [List.getD_eq_getElem?_getD]
      cases hj : rs[j]? with
      | none => rfl
      | some r =>
        have h1 := List.all_eq_true.mp he r (List.mem_of_getElem? hj)
        cases r with
        | none => rfl
        | some k => simp only [Option.getD_some, Option.map_some, h k (Nat.le_of_ble_eq_true h1)]
    rw [this]
  | .inr (.inr (ci, fs)), he =>
    simp only [al_ce]
    rw [List.map_congr_left (fun v hv => al_av_congr h (List.all_eq_true.mp he v hv))]
theorem al_wl_congr {ad ad' : Nat → Nat} {cid : Nat → ClassId} {n : Nat} {as : List Nat} {G : List al_E} (h : ∀ k, k < n → ad' k = ad k) (hG : G.all (al_oke n) = true) : al_wl ad' cid as G = al_wl ad cid as G := by
  unfold al_wl
  apply List.map_congr_left
  intro p hp
  rw [al_ce_congr h (List.all_eq_true.mp hG p.2 (List.of_mem_zip hp).2)]
theorem al_wl_get {ad : Nat → Nat} {cid : Nat → ClassId} {as : List Nat} {G : List al_E} (hl : as.length = G.length) {k : Nat} {e : al_E} (hk : G[k]? = some e) : (al_wl ad cid as G)[k]? = some (as.getD k 0, al_ce ad cid e) := by
  have hlt : k < as.length := by rw [hl]; exact (List.getElem?_eq_some_iff.mp hk).1
  unfold al_wl
  rw [List.getElem?_map, List.getElem?_zip_eq_some (z := (as.getD k 0, e)) |>.mpr ⟨by rw [List.getD_eq_getElem?_getD, List.getElem?_eq_getElem hlt]; rfl, hk⟩]
  rfl
theorem al_wl_push {ad : Nat → Nat} {cid : Nat → ClassId} {as : List Nat} {G : List al_E} (hl : as.length = G.length) (q : Nat) (e : al_E) : al_wl ad cid (as ++ [q]) (G ++ [e]) = al_wl ad cid as G ++ [(q, al_ce ad cid e)] := by
  unfold al_wl
  rw [List.zip_append hl, List.map_append]
  rfl
theorem al_wl_set {ad : Nat → Nat} {cid : Nat → ClassId} {as : List Nat} {G : List al_E} (hl : as.length = G.length) {k : Nat} {e' : al_E} : (al_wl ad cid as G).set k (as.getD k 0, al_ce ad cid e') = al_wl ad cid as (G.set k e') := by
  apply List.ext_getElem?
  intro j
  by_cases hj : j < G.length
  · by_cases hjk : j = k
    · subst hjk
      rw [List.getElem?_set_self (by unfold al_wl; simp [hl, hj]), al_wl_get (by rw [hl, List.length_set]) (List.getElem?_set_self hj)]
    · rw [List.getElem?_set_ne (Ne.symm hjk), al_wl_get hl (List.getElem?_eq_getElem hj), al_wl_get (G := G.set k e') (e := G[j]) (by rw [hl, List.length_set]) (by rw [List.getElem?_set_ne (Ne.symm hjk)]; exact List.getElem?_eq_getElem hj)]
  · rw [List.getElem?_eq_none (by unfold al_wl; simp; omega), List.getElem?_eq_none (by unfold al_wl; simp; omega)]
def al_nwT : List (Nat × Nat × Nat × Nat) := [(13, 7, 11, 1022), (11, 7, 10, 1030), (11, 16, 6, 1047), (6, 9, 1, 1053), (1, 24, 5, 1059), (11, 25, 1, 2000), (11, 32, 4, 2002), (11, 39, 8, 2027), (11, 46, 2, 2051), (11, 53, 0, 2064), (11, 62, 3, 2096), (11, 69, 9, 2129), (11, 84, 7, 2149), (13, 10, 12, 6069)]
def al_oiT : List (Nat × Nat × Nat) := [(11, 1, 1027), (10, 1, 1035), (6, 3, 1052), (1, 3, 1058), (5, 3, 1064), (4, 3, 2007), (8, 3, 2032), (2, 3, 2056), (0, 3, 2069), (3, 3, 2101), (9, 3, 2134), (7, 3, 2155), (12, 3, 6074)]
abbrev al_S : Type := Nat × mx_L × List Value × List al_E × Nat × Nat
/-- the number of the made object's kind, by the constant's place -/
def al_nw (y idx : Nat) : Option Nat := (al_nwT.find? fun e => Nat.beq e.1 (kq_cz y) && Nat.beq e.2.1 idx).map fun e => e.2.2.1
def al_oi (y idx : Nat) : Bool := al_oiT.any fun e => Nat.beq e.1 (kq_cz y) && Nat.beq e.2.1 idx
def al_dfs (T : u_T) (n : Nat) : List Value := (List.range n).map fun j => match parseFieldDescriptor (T j).2.2.1 with
  | some t => defaultValue t
  | none => .null
def al_tyn : ArrayType → Nat
  | .int => 0
  | .byte => 1
  | .boolean => 2
  | .long => 3
  | _ => 9
def al_pf (ds : String) (v : Value) : Bool := match parseFieldDescriptor ds with
  | some t => decide (narrow t v = v) && fits t v
  | none => false
def al_wf (L : mx_L) (st : List Value) (G : List al_E) : Bool := L.all (al_okl G.length) && st.all (al_okv G.length) && G.all (al_oke G.length)
def al_go (t : Int) (f : Nat → Option al_S) : Option al_S := match t with
  | .ofNat n => f n
  | .negSucc _ => none
/-- one instruction that is neither a call nor a return; at most mc cells of ms places are made -/
def al_ins (d y mc ms : Nat) (i : Instr) (S : al_S) : Option al_S := match S with
  | (pc, L, st, G, c, u) => cond (al_wf L st G) (match i with
    | .iconst n => some (pc + 1, L, .int (Int32.ofInt n) :: st, G, c, u)
    | .bipush n => some (pc + 2, L, .int (Int8.ofInt n).toInt32 :: st, G, c, u)
    | .sipush n => some (pc + 3, L, .int (Int16.ofInt n).toInt32 :: st, G, c, u)
    | .iload_n k => match mx_nth L k with
      | some (some (.int x)) => some (pc + 1, L, .int x :: st, G, c, u)
      | _ => none
    | .aload_n k => match mx_nth L k with
      | some (some (.ref x)) => some (pc + 1, L, .ref x :: st, G, c, u)
      | _ => none
    | .istore_n k => match st with
      | .int x :: r => if (k : Nat) < L.length then some (pc + 1, mx_st1 L k (.int x), r, G, c, u) else none
      | _ => none
    | .astore_n k => match st with
      | .ref x :: r => if (k : Nat) < L.length then some (pc + 1, mx_st1 L k (.ref x), r, G, c, u) else none
      | _ => none
    | .iinc k n => match mx_nth L k with
      | some (some (.int x)) => some (pc + 3, mx_st1 L k (.int (x + Int32.ofInt n)), st, G, c, u)
      | _ => none
    | .dup => match st with
      | .ref x :: r => some (pc + 1, L, .ref x :: .ref x :: r, G, c, u)
      | _ => none
    | .goto off => al_go ((pc : Int) + off) fun t => some (t, L, st, G, c, u)
    | .if_icmp .ge off => match st with
      | .int y :: .int x :: r => al_go ((pc : Int) + off) fun t => if y ≤ x then some (t, L, r, G, c, u) else some (pc + 3, L, r, G, c, u)
      | _ => none
    | .new idx => match al_nw y idx with
      | some ci => match kq_cl[ci]? with
        | some q => if c + 1 ≤ mc ∧ u + q.2.2 ≤ ms then some (pc + 3, L, .ref G.length :: st, G ++ [.inr (.inr (ci, al_dfs q.2.1 q.2.2))], c + 1, u + q.2.2) else none
        | none => none
      | none => none
    | .newarray ty => match st with
      | .int n :: r => if n < 0 ∨ 3 < al_tyn ty ∨ 1000000 < n.toNatClampNeg ∨ ¬ (c + 1 ≤ mc ∧ u + n.toNatClampNeg ≤ ms) then none else some (pc + 2, L, .ref G.length :: r, G ++ [.inl (al_tyn ty, n.toNatClampNeg, [])], c + 1, u + n.toNatClampNeg)
      | _ => none
    | .anewarray idx => match st with
      | .int n :: r => match al_nw y idx with
        | some 1 => if n < 0 ∨ 1000000 < n.toNatClampNeg ∨ ¬ (c + 1 ≤ mc ∧ u + n.toNatClampNeg ≤ ms) then none else some (pc + 3, L, .ref G.length :: r, G ++ [.inr (.inl (4, List.replicate n.toNatClampNeg none))], c + 1, u + n.toNatClampNeg)
        | some 7 => if n < 0 ∨ 1000000 < n.toNatClampNeg ∨ ¬ (c + 1 ≤ mc ∧ u + n.toNatClampNeg ≤ ms) then none else some (pc + 3, L, .ref G.length :: r, G ++ [.inr (.inl (5, List.replicate n.toNatClampNeg none))], c + 1, u + n.toNatClampNeg)
        | _ => none
      | _ => none
    | .getfield idx => match st with
      | .ref a :: r => match kq_fl y idx, G[a]? with
        | some (ci, j, _, _), some (.inr (.inr (ci', fs))) => if ci = ci' then (match fs[j]? with
            | some v => some (pc + 3, L, v :: r, G, c, u)
            | none => none) else none
        | _, _ => none
      | _ => none
    | .putfield idx => match st with
      | v :: .ref a :: r => match kq_fl y idx, G[a]? with
        | some (ci, j, _, _), some (.inr (.inr (ci', fs))) => match kq_cl[ci]? with
          | some q => if ci = ci' ∧ j < fs.length ∧ al_pf (q.2.1 j).2.2.1 v = true ∧ (q.2.1 j).1 = kq_cn (kq_cz y) then some (pc + 3, L, r, G.set a (.inr (.inr (ci, fs.set j v))), c, u) else none
          | none => none
        | _, _ => none
      | _ => none
    | .iastore => match st with
      | .int x :: .int i :: .ref a :: r => match G[a]? with
        | some (.inl (0, n, f)) => if i < 0 ∨ n ≤ i.toNatClampNeg then none else some (pc + 1, L, r, G.set a (.inl (0, n, (i.toNatClampNeg, x) :: f)), c, u)
        | _ => none
      | _ => none
    | .aastore => match st with
      | .ref v :: .int i :: .ref a :: r => match G[a]?, G[v]? with
        | some (.inr (.inl (4, rs))), some (.inr (.inr (1, _))) => if i < 0 ∨ rs.length ≤ i.toNatClampNeg then none else some (pc + 1, L, r, G.set a (.inr (.inl (4, rs.set i.toNatClampNeg (some v)))), c, u)
        | some (.inr (.inl (5, rs))), some (.inr (.inr (7, _))) => if i < 0 ∨ rs.length ≤ i.toNatClampNeg then none else some (pc + 1, L, r, G.set a (.inr (.inl (5, rs.set i.toNatClampNeg (some v)))), c, u)
        | _, _ => none
      | _ => none
    | .invokespecial idx => match st with
      | .ref a :: r => if al_oi y idx = true ∧ (r.map fun v => v.category).sum ≤ 8 ∧ 0 < d then some (pc + 3, L, r, G, c, u) else none
      | _ => none
    | _ => none) none
