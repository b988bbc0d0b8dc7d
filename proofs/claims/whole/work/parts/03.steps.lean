/-! ===== one instruction of the small machine is one of the real one ===== -/
def mx_A (base : Nat) : Nat → Prop := fun q => base ≤ q
/-- the tables say of a method's instructions what the Statement's words say -/
def mx_ty : Nat → FieldType
  | 0 => .int
  | 1 => .boolean
  | _ => .long
def mx_okC (cl : List vw_C) (GW : List Cond) : Prop := ∀ (ci : Nat) (q : vw_C), cl[ci]? = some q → (∀ w ∈ u_ws q.1 q.2.1 q.2.2, w ∈ GW) ∧ (∃ ty0 : Nat → FieldType, ∀ k, k < q.2.2 → parseFieldDescriptor (q.2.1 k).2.2.1 = some (ty0 k)) ∧ (∀ a, a < q.2.2 → ∀ b, b < q.2.2 → a ≠ b → (q.2.1 a).2.1 ≠ (q.2.1 b).2.1)
def mx_okF (fl : Nat → Nat → Option (Nat × Nat × Nat × Bool)) (cl : List vw_C) (GW : List Cond) (y : Nat) (own : String) : Prop := ∀ (idx ci j ty : Nat) (w : Bool), fl y idx = some (ci, j, ty, w) → ∃ q : vw_C, cl[ci]? = some q ∧ j < q.2.2 ∧ Cond.fieldLink own idx (q.2.1 j).1 (q.2.1 j).2.1 (q.2.1 j).2.2.1 ∈ GW ∧ (w = true → (q.2.1 j).2.2.2 = false ∧ parseFieldDescriptor (q.2.1 j).2.2.1 = some (mx_ty ty))
def mx_okL (lay : Nat → Option mx_Sh) (N : Nat) (cid : Nat → ClassId) (tys : List (ClassId × FieldType)) : Prop := (∀ k sh, lay k = some sh → k < N) ∧ (∀ k t n, lay k = some (.inl (t, n)) → t < 4) ∧ (∀ k t rs, lay k = some (.inr (.inl (t, rs))) → ∃ C, tys[t]? = some (cid t, .object C)) ∧ tys[0]? = some (cid 0, .int) ∧ tys[1]? = some (cid 1, .byte) ∧ tys[2]? = some (cid 2, .boolean) ∧ tys[3]? = some (cid 3, .long)
def mx_okK (ko : Nat → Nat → Option Value) (ad : Nat → Nat) (GW : List Cond) (Ext : State → Prop) (y : Nat) (own : String) : Prop := ∀ (idx : Nat) (v : Value), ko y idx = some v → match v with
  | .int x => Cond.constant own idx x ∈ GW
  | .long x => Cond.constantLong own idx x ∈ GW
  | .ref k => ∀ s, Ext s → ∃ tx, vk_R own idx tx (ad k) s
  | _ => True
def mx_okG (gs : Nat → Nat → Option Nat) (ad : Nat → Nat) (base : Nat) (GW : List Cond) (Ext : State → Prop) (y : Nat) (own : String) : Prop := ∀ (idx k : Nat), gs y idx = some k → ∀ s, Ext s → ∃ C n d, va_Z C n d (.ref (ad k)) (mx_A base) s s.heap ∧ Cond.fieldLink own idx C n d ∈ GW
def mx_okX (ext : Nat → Option (Nat × (Nat → Int32))) (ad : Nat → Nat) (base : Nat) (Ext : State → Prop) : Prop := ∀ (k n : Nat) (f : Nat → Int32), ext k = some (n, f) → ∀ s, Ext s → va_T .int (ad k) n (fun j => .int (f j)) (mx_A base) s s.heap
def mx_okA (ck : Nat → Nat → Option (Nat × Nat × Nat)) (GW : List Cond) (y : Nat) (own : String) : Prop := ∀ (idx k a b : Nat), ck y idx = some (k, a, b) → (k = 5 → Cond.methodLink own idx arraycopyName ∈ GW ∧ Cond.native arraycopyName ∈ GW ∧ Cond.static arraycopyName ∈ GW ∧ Cond.initialized "java/lang/System" ∈ GW) ∧ (k = 6 → Cond.methodLink own idx Lib.Math.min.name ∈ GW ∧ Cond.static Lib.Math.min.name ∈ GW ∧ Cond.initialized "java/lang/Math" ∈ GW ∧ Cond.code Lib.Math.min.name Lib.Math.min.code 2 (some .int) ∈ GW) ∧ (k = 7 → Cond.methodLink own idx Lib.Math.max.name ∈ GW ∧ Cond.static Lib.Math.max.name ∈ GW ∧ Cond.initialized "java/lang/Math" ∈ GW ∧ Cond.code Lib.Math.max.name Lib.Math.max.code 2 (some .int) ∈ GW)
theorem mx_go_some {t : Int} {f : Nat → Option mx_S} {S : mx_S} (h : mx_go t f = some S) : ∃ n : Nat, t = (n : Int) ∧ f n = some S := by
  cases t with
  | ofNat n => exact ⟨n, rfl, h⟩
  | negSucc n => cases h
theorem mx_nor {a b : Prop} (h : ¬ (a ∨ b)) : ¬ a ∧ ¬ b := ⟨fun q => h (Or.inl q), fun q => h (Or.inr q)⟩
def mx_rm (d : Nat) : Room := { frames := d, cells := 0, slots := 0, locals := 64 * d }
section MS
variable {fl : Nat → Nat → Option (Nat × Nat × Nat × Bool)} {ko : Nat → Nat → Option Value} {gs : Nat → Nat → Option Nat} {ck : Nat → Nat → Option (Nat × Nat × Nat)} {lay : Nat → Option mx_Sh} {ext : Nat → Option (Nat × (Nat → Int32))} {ad : Nat → Nat} {cid : Nat → ClassId} {N base : Nat} {GW : List Cond} {cl : List vw_C} {Dg : va_G} {tys : List (ClassId × FieldType)} {Ext : State → Prop}
variable {p : Program} {l : Launch} {e : Env} {s : State} {m : MethodId} {args : Array Value} {below : List Frame} {meth : Method} {c : Code} {H : Heap} {locs : List Loc} {Q : State → Prop}
variable {R : Room} {cells slots : Nat} {cc : ByteArray} {own : String} {nL d y pc pc' n : Nat} {L L' : mx_L} {st st' : List Value} {D D' : mx_D} {E E' : mx_E} {ls : Array Slot}

theorem mx_ins_snd (hR : d ≤ R.frames ∧ 64 * d ≤ R.locals) (hcs : cells ≤ R.cells ∧ slots ≤ R.slots) (hx : p.tables.exec = Jvm.exec) (hb : c.code = cc) (hml : c.maxLocals = nL) (hown : s.vm.findClass own = some m.cls) (hts : ∀ w ∈ GW, w.before args s = true) (hK : va_K Dg cl tys s) (hE : Ext s)
    (oC : mx_okC cl GW) (oF : mx_okF fl cl GW y own) (oL : mx_okL lay N cid tys) (oK : mx_okK ko ad GW Ext y own) (oG : mx_okG gs ad base GW Ext y own) (oX : mx_okX ext ad base Ext) (oA : mx_okA ck GW y own)
    (hP : va_P Dg cl (mx_wl ad cid lay N D E) H) (hD : va_D (mx_A base) (mx_wl ad cid lay N D E)) (hS : va_S (mx_A base) s.heap H locs) (hl : mx_has ad ls nL L)
    (i : Instr) (hd : decode cc pc = .ok (i, n)) (hn : n = mx_len i ∨ mx_len i = 0) (h : mx_ins fl ko gs ck lay ext d y i (pc, L, st, D, E) = some (pc', L', st', D', E'))
    (kk : ∀ (H1 : Heap) (locs1 : List Loc) (ls1 : Array Slot), va_P Dg cl (mx_wl ad cid lay N D' E') H1 → va_S (mx_A base) s.heap H1 locs1 → mx_has ad ls1 nL L' → W p l e R s m args below meth c H1 locs1 cells slots Q (F0 m pc' ls1 (st'.map (mx_av ad)))) : W p l e R s m args below meth c H locs cells slots Q (F0 m pc ls (st.map (mx_av ad))) := by
  cases i with
  | iconst k0 =>
    obtain rfl : n = _ := hn.resolve_right (by simp [mx_len])
    simp only [mx_len] at hd
    simp only [mx_ins] at h
    cases h
    exact lv_iconst hx hb hd rfl (kk _ _ _ hP hS hl)
  | bipush k0 =>
    obtain rfl : n = _ := hn.resolve_right (by simp [mx_len])
    simp only [mx_len] at hd
    simp only [mx_ins] at h
    cases h
    exact lv_bipush hx hb hd rfl (kk _ _ _ hP hS hl)
  | sipush k0 =>
    obtain rfl : n = _ := hn.resolve_right (by simp [mx_len])
    simp only [mx_len] at hd
    simp only [mx_ins] at h
    cases h
    exact lv_sipush hx hb hd rfl (kk _ _ _ hP hS hl)
  | lconst k0 =>
    obtain rfl : n = _ := hn.resolve_right (by simp [mx_len])
    simp only [mx_len] at hd
    simp only [mx_ins] at h
    cases h
    exact lv_lconst hx hb hd rfl (kk _ _ _ hP hS hl)
  | iload_n k0 =>
    obtain rfl : n = _ := hn.resolve_right (by simp [mx_len])
    simp only [mx_len] at hd
    simp only [mx_ins] at h
    split at h
    · rename_i x hxx
      cases h
      exact lv_iload_n hx hb hd rfl (mx_has_at hl hxx) (kk _ _ _ hP hS hl)
    · cases h
  | iload k0 =>
    obtain rfl : n = _ := hn.resolve_right (by simp [mx_len])
    simp only [mx_len] at hd
    simp only [mx_ins] at h
    split at h
    · rename_i x hxx
      cases h
      exact lv_iload hx hb hd (mx_has_at hl hxx) (kk _ _ _ hP hS hl)
    · cases h
  | lload_n k0 =>
    obtain rfl : n = _ := hn.resolve_right (by simp [mx_len])
    simp only [mx_len] at hd
    simp only [mx_ins] at h
    split at h
    · rename_i x hxx
      cases h
      exact lv_lload_n hx hb hd rfl (mx_has_at hl hxx) (kk _ _ _ hP hS hl)
    · cases h
  | lload k0 =>
    obtain rfl : n = _ := hn.resolve_right (by simp [mx_len])
    simp only [mx_len] at hd
    simp only [mx_ins] at h
    split at h
    · rename_i x hxx
      cases h
      exact lv_lload hx hb hd (mx_has_at hl hxx) (kk _ _ _ hP hS hl)
    · cases h
  | aload_n k0 =>
    obtain rfl : n = _ := hn.resolve_right (by simp [mx_len])
    simp only [mx_len] at hd
    simp only [mx_ins] at h
    split at h
    · rename_i x hxx
      cases h
      exact lv_aload_n hx hb hd rfl (mx_has_at hl hxx) (kk _ _ _ hP hS hl)
    · cases h
  | aload k0 =>
    obtain rfl : n = _ := hn.resolve_right (by simp [mx_len])
    simp only [mx_len] at hd
    simp only [mx_ins] at h
    split at h
    · rename_i x hxx
      cases h
      exact lv_aload hx hb hd (mx_has_at hl hxx) (kk _ _ _ hP hS hl)
    · cases h
  | istore_n k0 =>
    obtain rfl : n = _ := hn.resolve_right (by simp [mx_len])
    simp only [mx_len] at hd
    simp only [mx_ins] at h
    split at h
    · split at h
      · rename_i hlt
        cases h
        exact lv_istore_n hx hb hd rfl hl.1 (by rw [← hl.2]; exact hlt) rfl (fun ls1 hl1 => kk _ _ _ hP hS (mx_has_st1 hl hl1))
      · cases h
    · cases h
  | istore k0 =>
    obtain rfl : n = _ := hn.resolve_right (by simp [mx_len])
    simp only [mx_len] at hd
    simp only [mx_ins] at h
    split at h
    · split at h
      · rename_i hlt
        cases h
        exact lv_istore hx hb hd hl.1 (by rw [← hl.2]; exact hlt) rfl (fun ls1 hl1 => kk _ _ _ hP hS (mx_has_st1 hl hl1))
      · cases h
    · cases h
  | lstore_n k0 =>
    obtain rfl : n = _ := hn.resolve_right (by simp [mx_len])
    simp only [mx_len] at hd
    simp only [mx_ins] at h
    split at h
    · split at h
      · rename_i hlt
        cases h
        exact lv_lstore_n hx hb hd rfl hl.1 (by rw [← hl.2]; exact hlt) rfl (fun ls1 hl1 => kk _ _ _ hP hS (mx_has_st2 hl hl1))
      · cases h
    · cases h
  | lstore k0 =>
    obtain rfl : n = _ := hn.resolve_right (by simp [mx_len])
    simp only [mx_len] at hd
    simp only [mx_ins] at h
    split at h
    · split at h
      · rename_i hlt
        cases h
        exact lv_lstore hx hb hd hl.1 (by rw [← hl.2]; exact hlt) rfl (fun ls1 hl1 => kk _ _ _ hP hS (mx_has_st2 hl hl1))
      · cases h
    · cases h
  | astore_n k0 =>
    obtain rfl : n = _ := hn.resolve_right (by simp [mx_len])
    simp only [mx_len] at hd
    simp only [mx_ins] at h
    split at h
    · split at h
      · rename_i hlt
        cases h
        exact lv_astore_n hx hb hd rfl hl.1 (by rw [← hl.2]; exact hlt) rfl (fun ls1 hl1 => kk _ _ _ hP hS (mx_has_st1 hl hl1))
      · cases h
    · cases h
  | astore k0 =>
    obtain rfl : n = _ := hn.resolve_right (by simp [mx_len])
    simp only [mx_len] at hd
    simp only [mx_ins] at h
    split at h
    · split at h
      · rename_i hlt
        cases h
        exact lv_astore hx hb hd hl.1 (by rw [← hl.2]; exact hlt) rfl (fun ls1 hl1 => kk _ _ _ hP hS (mx_has_st1 hl hl1))
      · cases h
    · cases h
  | iinc k0 c0 =>
    obtain rfl : n = _ := hn.resolve_right (by simp [mx_len])
    simp only [mx_len] at hd
    simp only [mx_ins] at h
    split at h
    · rename_i x hxx
      cases h
      obtain ⟨k1, hk1⟩ := List.getElem?_of_mem (mx_as_in (ad := ad) L 0 k0 _ hxx)
      rw [Nat.zero_add] at hk1
      exact lv_iinc hx hb hd hl.1 hk1 rfl (by rw [← hl.2]; exact mx_nth_lt hxx) rfl (fun ls1 hl1 => kk _ _ _ hP hS (mx_has_st1 (v := .int _) hl hl1))
    · cases h
  | iadd =>
    obtain rfl : n = _ := hn.resolve_right (by simp [mx_len])
    simp only [mx_len] at hd
    simp only [mx_ins] at h
    split at h
    · cases h
      exact lv_iadd hx hb hd (kk _ _ _ hP hS hl)
    · cases h
  | isub =>
    obtain rfl : n = _ := hn.resolve_right (by simp [mx_len])
    simp only [mx_len] at hd
    simp only [mx_ins] at h
    split at h
    · cases h
      exact lv_isub hx hb hd (kk _ _ _ hP hS hl)
    · cases h
  | imul =>
    obtain rfl : n = _ := hn.resolve_right (by simp [mx_len])
    simp only [mx_len] at hd
    simp only [mx_ins] at h
    split at h
    · cases h
      exact lv_imul hx hb hd (kk _ _ _ hP hS hl)
    · cases h
  | iand =>
    obtain rfl : n = _ := hn.resolve_right (by simp [mx_len])
    simp only [mx_len] at hd
    simp only [mx_ins] at h
    split at h
    · cases h
      exact lv_iand hx hb hd (kk _ _ _ hP hS hl)
    · cases h
  | ior =>
    obtain rfl : n = _ := hn.resolve_right (by simp [mx_len])
    simp only [mx_len] at hd
    simp only [mx_ins] at h
    split at h
    · cases h
      exact lv_ior hx hb hd (kk _ _ _ hP hS hl)
    · cases h
  | ixor =>
    obtain rfl : n = _ := hn.resolve_right (by simp [mx_len])
    simp only [mx_len] at hd
    simp only [mx_ins] at h
    split at h
    · cases h
      exact lv_ixor hx hb hd (kk _ _ _ hP hS hl)
    · cases h
  | ishl =>
    obtain rfl : n = _ := hn.resolve_right (by simp [mx_len])
    simp only [mx_len] at hd
    simp only [mx_ins] at h
    split at h
    · cases h
      exact lv_ishl hx hb hd (kk _ _ _ hP hS hl)
    · cases h
  | ishr =>
    obtain rfl : n = _ := hn.resolve_right (by simp [mx_len])
    simp only [mx_len] at hd
    simp only [mx_ins] at h
    split at h
    · cases h
      exact lv_ishr hx hb hd (kk _ _ _ hP hS hl)
    · cases h
  | ladd =>
    obtain rfl : n = _ := hn.resolve_right (by simp [mx_len])
    simp only [mx_len] at hd
    simp only [mx_ins] at h
    split at h
    · cases h
      exact lv_ladd hx hb hd (kk _ _ _ hP hS hl)
    · cases h
  | lmul =>
    obtain rfl : n = _ := hn.resolve_right (by simp [mx_len])
    simp only [mx_len] at hd
    simp only [mx_ins] at h
    split at h
    · cases h
      exact lv_lmul hx hb hd (kk _ _ _ hP hS hl)
    · cases h
  | land =>
    obtain rfl : n = _ := hn.resolve_right (by simp [mx_len])
    simp only [mx_len] at hd
    simp only [mx_ins] at h
    split at h
    · cases h
      exact lv_land hx hb hd (kk _ _ _ hP hS hl)
    · cases h
  | lor =>
    obtain rfl : n = _ := hn.resolve_right (by simp [mx_len])
    simp only [mx_len] at hd
    simp only [mx_ins] at h
    split at h
    · cases h
      exact lv_lor hx hb hd (kk _ _ _ hP hS hl)
    · cases h
  | iushr =>
    obtain rfl : n = _ := hn.resolve_right (by simp [mx_len])
    simp only [mx_len] at hd
    simp only [mx_ins] at h
    split at h
    · cases h
      exact lv_iushr hx hb hd rfl (kk _ _ _ hP hS hl)
    · cases h
  | lshl =>
    obtain rfl : n = _ := hn.resolve_right (by simp [mx_len])
    simp only [mx_len] at hd
    simp only [mx_ins] at h
    split at h
    · cases h
      exact lv_lshl hx hb hd rfl (kk _ _ _ hP hS hl)
    · cases h
  | lshr =>
    obtain rfl : n = _ := hn.resolve_right (by simp [mx_len])
    simp only [mx_len] at hd
    simp only [mx_ins] at h
    split at h
    · cases h
      exact lv_lshr hx hb hd rfl (kk _ _ _ hP hS hl)
    · cases h
  | i2l =>
    obtain rfl : n = _ := hn.resolve_right (by simp [mx_len])
    simp only [mx_len] at hd
    simp only [mx_ins] at h
    split at h
    · cases h
      exact lv_i2l hx hb hd rfl (kk _ _ _ hP hS hl)
    · cases h
  | l2i =>
    obtain rfl : n = _ := hn.resolve_right (by simp [mx_len])
    simp only [mx_len] at hd
    simp only [mx_ins] at h
    split at h
    · cases h
      exact lv_l2i hx hb hd rfl (kk _ _ _ hP hS hl)
    · cases h
  | i2b =>
    obtain rfl : n = _ := hn.resolve_right (by simp [mx_len])
    simp only [mx_len] at hd
    simp only [mx_ins] at h
    split at h
    · cases h
      exact lv_i2b hx hb hd rfl (kk _ _ _ hP hS hl)
    · cases h
  | i2s =>
    obtain rfl : n = _ := hn.resolve_right (by simp [mx_len])
    simp only [mx_len] at hd
    simp only [mx_ins] at h
    split at h
    · cases h
      exact lv_i2s hx hb hd rfl (kk _ _ _ hP hS hl)
    · cases h
  | ineg =>
    obtain rfl : n = _ := hn.resolve_right (by simp [mx_len])
    simp only [mx_len] at hd
    simp only [mx_ins] at h
    split at h
    · cases h
      exact lv_ineg hx hb hd (kk _ _ _ hP hS hl)
    · cases h
  | lcmp =>
    obtain rfl : n = _ := hn.resolve_right (by simp [mx_len])
    simp only [mx_len] at hd
    simp only [mx_ins] at h
    split at h
    · cases h
      exact W.lcmp hx hb hd (kk _ _ _ hP hS hl)
    · cases h
  | idiv =>
    obtain rfl : n = _ := hn.resolve_right (by simp [mx_len])
    simp only [mx_len] at hd
    simp only [mx_ins] at h
    split at h
    · split at h
      · cases h
      · rename_i hz
        cases h
        exact lv_idiv hx hb hd hz (kk _ _ _ hP hS hl)
    · cases h
  | irem =>
    obtain rfl : n = _ := hn.resolve_right (by simp [mx_len])
    simp only [mx_len] at hd
    simp only [mx_ins] at h
    split at h
    · split at h
      · cases h
      · rename_i hz
        cases h
        exact lv_irem hx hb hd hz (kk _ _ _ hP hS hl)
    · cases h
  | ldiv =>
    obtain rfl : n = _ := hn.resolve_right (by simp [mx_len])
    simp only [mx_len] at hd
    simp only [mx_ins] at h
    split at h
    · split at h
      · cases h
      · rename_i hz
        cases h
        exact lv_ldiv hx hb hd hz (kk _ _ _ hP hS hl)
    · cases h
  | lrem =>
    obtain rfl : n = _ := hn.resolve_right (by simp [mx_len])
    simp only [mx_len] at hd
    simp only [mx_ins] at h
    split at h
    · split at h
      · cases h
      · rename_i hz
        cases h
        exact lv_lrem hx hb hd hz (kk _ _ _ hP hS hl)
    · cases h
  | dup =>
    obtain rfl : n = _ := hn.resolve_right (by simp [mx_len])
    simp only [mx_len] at hd
    simp only [mx_ins] at h
    split at h
    · cases h
      exact lv_dup hx hb hd rfl (kk _ _ _ hP hS hl)
    · cases h
      exact lv_dup hx hb hd rfl (kk _ _ _ hP hS hl)
    · cases h
  | dup2 =>
    obtain rfl : n = _ := hn.resolve_right (by simp [mx_len])
    simp only [mx_len] at hd
    simp only [mx_ins] at h
    split at h
    · cases h
      exact lv_dup2_11 hx hb hd rfl rfl (kk _ _ _ hP hS hl)
    · cases h
  | pop =>
    obtain rfl : n = _ := hn.resolve_right (by simp [mx_len])
    simp only [mx_len] at hd
    simp only [mx_ins] at h
    split at h
    · cases h
      exact lv_pop hx hb hd rfl (kk _ _ _ hP hS hl)
    · cases h
  | goto off =>
    obtain rfl : n = _ := hn.resolve_right (by simp [mx_len])
    simp only [mx_len] at hd
    simp only [mx_ins] at h
    obtain ⟨t, ht, h⟩ := mx_go_some h
    cases h
    exact lv_goto hx hb hd ht (kk _ _ _ hP hS hl)
  | ifCond c0 off =>
    obtain rfl : n = _ := hn.resolve_right (by simp [mx_len])
    simp only [mx_len] at hd
    simp only [mx_ins] at h
    split at h
    · obtain ⟨t, ht, h⟩ := mx_go_some h
      cases c0 <;> simp only at h
      · refine lv_if_eq hx hb hd ht (fun z => ?_) (fun z => ?_)
        · first | rw [if_pos z] at h | rw [if_neg z] at h
          cases h
          exact kk _ _ _ hP hS hl
        · first | rw [if_neg z] at h | rw [if_pos z] at h
          cases h
          exact kk _ _ _ hP hS hl
      · refine lv_if_ne hx hb hd ht (fun z => ?_) (fun z => ?_)
        · first | rw [if_pos z] at h | rw [if_neg z] at h
          cases h
          exact kk _ _ _ hP hS hl
        · first | rw [if_neg z] at h | rw [if_pos z] at h
          cases h
          exact kk _ _ _ hP hS hl
      · refine lv_if_lt hx hb hd ht (fun z => ?_) (fun z => ?_)
        · first | rw [if_pos z] at h | rw [if_neg z] at h
          cases h
          exact kk _ _ _ hP hS hl
        · first | rw [if_neg z] at h | rw [if_pos z] at h
          cases h
          exact kk _ _ _ hP hS hl
      · refine lv_if_ge hx hb hd ht (fun z => ?_) (fun z => ?_)
        · first | rw [if_pos z] at h | rw [if_neg z] at h
          cases h
          exact kk _ _ _ hP hS hl
        · first | rw [if_neg z] at h | rw [if_pos z] at h
          cases h
          exact kk _ _ _ hP hS hl
      · refine lv_if_gt hx hb hd ht (fun z => ?_) (fun z => ?_)
        · first | rw [if_pos z] at h | rw [if_neg z] at h
          cases h
          exact kk _ _ _ hP hS hl
        · first | rw [if_neg z] at h | rw [if_pos z] at h
          cases h
          exact kk _ _ _ hP hS hl
      · refine lv_if_le hx hb hd ht (fun z => ?_) (fun z => ?_)
        · first | rw [if_pos z] at h | rw [if_neg z] at h
          cases h
          exact kk _ _ _ hP hS hl
        · first | rw [if_neg z] at h | rw [if_pos z] at h
          cases h
          exact kk _ _ _ hP hS hl
    · cases h
  | if_icmp c0 off =>
    obtain rfl : n = _ := hn.resolve_right (by simp [mx_len])
    simp only [mx_len] at hd
    simp only [mx_ins] at h
    split at h
    · obtain ⟨t, ht, h⟩ := mx_go_some h
      cases c0 <;> simp only at h
      · refine lv_icmp_eq hx hb hd ht (fun z => ?_) (fun z => ?_)
        · first | rw [if_pos z] at h | rw [if_neg z] at h
          cases h
          exact kk _ _ _ hP hS hl
        · first | rw [if_neg z] at h | rw [if_pos z] at h
          cases h
          exact kk _ _ _ hP hS hl
      · refine lv_icmp_ne hx hb hd ht (fun z => ?_) (fun z => ?_)
        · first | rw [if_pos z] at h | rw [if_neg z] at h
          cases h
          exact kk _ _ _ hP hS hl
        · first | rw [if_neg z] at h | rw [if_pos z] at h
          cases h
          exact kk _ _ _ hP hS hl
      · refine lv_icmp_lt hx hb hd ht (fun z => ?_) (fun z => ?_)
        · first | rw [if_pos z] at h | rw [if_neg z] at h
          cases h
          exact kk _ _ _ hP hS hl
        · first | rw [if_neg z] at h | rw [if_pos z] at h
          cases h
          exact kk _ _ _ hP hS hl
      · refine lv_icmp_ge hx hb hd ht (fun z => ?_) (fun z => ?_)
        · first | rw [if_pos z] at h | rw [if_neg z] at h
          cases h
          exact kk _ _ _ hP hS hl
        · first | rw [if_neg z] at h | rw [if_pos z] at h
          cases h
          exact kk _ _ _ hP hS hl
      · refine lv_icmp_gt hx hb hd ht (fun z => ?_) (fun z => ?_)
        · first | rw [if_pos z] at h | rw [if_neg z] at h
          cases h
          exact kk _ _ _ hP hS hl
        · first | rw [if_neg z] at h | rw [if_pos z] at h
          cases h
          exact kk _ _ _ hP hS hl
      · refine lv_icmp_le hx hb hd ht (fun z => ?_) (fun z => ?_)
        · first | rw [if_pos z] at h | rw [if_neg z] at h
          cases h
          exact kk _ _ _ hP hS hl
        · first | rw [if_neg z] at h | rw [if_pos z] at h
          cases h
          exact kk _ _ _ hP hS hl
    · cases h
  | tableswitch dflt lo hi offs =>
    simp only [mx_ins] at h
    split at h
    · split at h
      · rename_i hz
        obtain ⟨t, ht, h⟩ := mx_go_some h
        cases h
        exact lv_tableOut hx hb hd hz ht (kk _ _ _ hP hS hl)
      · rename_i hz
        split at h
        · rename_i off ho
          obtain ⟨t, ht, h⟩ := mx_go_some h
          cases h
          exact lv_tableIn hx hb hd (mx_nor hz).1 (mx_nor hz).2 ho ht (kk _ _ _ hP hS hl)
        · cases h
    · cases h
  | ldc idx =>
    obtain rfl : n = _ := hn.resolve_right (by simp [mx_len])
    simp only [mx_len] at hd
    simp only [mx_ins] at h
    split at h
    · rename_i v hv
      cases h
      exact lv_ldc hx hb hown (hts _ (oK _ _ hv)) hd (kk _ _ _ hP hS hl)
    · rename_i v hv
      cases h
      obtain ⟨tx, hz⟩ := oK _ _ hv s hE
      exact va_ldcS hx hb hown hz hd (kk _ _ _ hP hS hl)
    · cases h
  | ldc_w idx =>
    obtain rfl : n = _ := hn.resolve_right (by simp [mx_len])
    simp only [mx_len] at hd
    simp only [mx_ins] at h
    split at h
    · rename_i v hv
      cases h
      exact lv_ldcw hx hb hown (hts _ (oK _ _ hv)) hd (kk _ _ _ hP hS hl)
    · cases h
  | ldc2_w idx =>
    obtain rfl : n = _ := hn.resolve_right (by simp [mx_len])
    simp only [mx_len] at hd
    simp only [mx_ins] at h
    split at h
    · rename_i v hv
      cases h
      exact lv_ldc2 hx hb hown (hts _ (oK _ _ hv)) hd (kk _ _ _ hP hS hl)
    · cases h
  | getstatic idx =>
    obtain rfl : n = _ := hn.resolve_right (by simp [mx_len])
    simp only [mx_len] at hd
    simp only [mx_ins] at h
    split at h
    · rename_i v hv
      cases h
      obtain ⟨C, n1, d1, hz, hw⟩ := oG _ _ hv s hE
      exact va_gets hx hb hz hS hown (hts _ hw) (fun _ q => q) hd (kk _ _ _ hP hS hl)
    · cases h
  | getfield idx =>
    obtain rfl : n = _ := hn.resolve_right (by simp [mx_len])
    simp only [mx_len] at hd
    simp only [mx_ins] at h
    split at h
    · rename_i a r
      split at h
      · rename_i ci j ty w ci' fs hf hla
        split at h
        · rename_i hci
          subst hci
          obtain ⟨q, hq, hj, hw, hput⟩ := oF _ _ _ _ _ hf
          obtain ⟨cw, ⟨ty0, hty⟩, hnm⟩ := oC _ _ hq
          have hk := oL.1 _ _ hla
          have hget : (mx_wl ad cid lay N D E)[a]? = some (ad a, .inr (ci, mx_fv ad D E a 0 fs)) := by rw [mx_wl_get hk]; simp only [mx_ce, hla]
          split at h
          · rename_i hc
            cases h
            exact va_get hx hb hts cw hown hK hP a hget hq j hj (hts _ hw) (fun _ q => q) (by rw [mx_fv_get, Nat.zero_add, hc]; rfl) hd (kk _ _ _ hP hS hl)
          · rename_i hc
            cases h
            exact va_get hx hb hts cw hown hK hP a hget hq j hj (hts _ hw) (fun _ q => q) (by rw [mx_fv_get, Nat.zero_add, hc]; rfl) hd (kk _ _ _ hP hS hl)
          · rename_i hc
            cases h
            exact va_get hx hb hts cw hown hK hP a hget hq j hj (hts _ hw) (fun _ q => q) (by rw [mx_fv_get, Nat.zero_add, hc]; rfl) hd (kk _ _ _ hP hS hl)
          · cases h
        · cases h
      · cases h
    · cases h
  | putfield idx =>
    obtain rfl : n = _ := hn.resolve_right (by simp [mx_len])
    simp only [mx_len] at hd
    simp only [mx_ins] at h
    split at h
    · rename_i x a r
      split at h
      · rename_i ci j ty ci' fs hf hla
        split at h
        · rename_i hci
          subst hci
          obtain ⟨q, hq, hj, hw, hput⟩ := oF _ _ _ _ _ hf
          obtain ⟨hfin, hpd⟩ := hput rfl
          obtain ⟨cw, ⟨ty0, hty⟩, hnm⟩ := oC _ _ hq
          have hk := oL.1 _ _ hla
          have hget : (mx_wl ad cid lay N D E)[a]? = some (ad a, .inr (ci, mx_fv ad D E a 0 fs)) := by rw [mx_wl_get hk]; simp only [mx_ce, hla]
          split at h
          · rename_i hc
            split at h
            · rename_i hv
              cases h
              have hnf : narrow (mx_ty ty) (.int x) = .int x ∧ fits (mx_ty ty) (.int x) = true := by
                rcases hv with rfl | ⟨rfl, rfl | rfl⟩
                · exact ⟨rfl, rfl⟩
                · exact ⟨by decide, by decide⟩
                · exact ⟨by decide, by decide⟩
              refine va_put (v := .int x) hx hb hts cw ty0 hty hnm hown hK hP hD hS a hget hq j hj (hts _ hw) (fun _ q => q) hfin hpd hnf.1 hnf.2 (by rw [mx_fv_len]; exact mx_nth_lt hc) hd (fun H1 locs1 hP1 hD1 hS1 => kk _ _ _ ?_ hS1 hl)
              rw [mx_wl_set (D' := va_up D a (upd (D a) j x)) (E' := E) (by simp only [mx_ce, hla]; rw [mx_fv_setI hc]) mx_up_ne (fun _ _ => rfl)] at hP1
              exact hP1
            · cases h
          · cases h
        · cases h
      · cases h
    · rename_i x a r
      split at h
      · rename_i ci j ci' fs hf hla
        split at h
        · rename_i hci
          subst hci
          obtain ⟨q, hq, hj, hw, hput⟩ := oF _ _ _ _ _ hf
          obtain ⟨hfin, hpd⟩ := hput rfl
          obtain ⟨cw, ⟨ty0, hty⟩, hnm⟩ := oC _ _ hq
          have hk := oL.1 _ _ hla
          have hget : (mx_wl ad cid lay N D E)[a]? = some (ad a, .inr (ci, mx_fv ad D E a 0 fs)) := by rw [mx_wl_get hk]; simp only [mx_ce, hla]
          split at h
          · rename_i hc
            cases h
            refine va_put (v := .long x) hx hb hts cw ty0 hty hnm hown hK hP hD hS a hget hq j hj (hts _ hw) (fun _ q => q) hfin hpd rfl rfl (by rw [mx_fv_len]; exact mx_nth_lt hc) hd (fun H1 locs1 hP1 hD1 hS1 => kk _ _ _ ?_ hS1 hl)
            rw [mx_wl_set (D' := D) (E' := va_up E a (vp_updL (E a) j x)) (by simp only [mx_ce, hla]; rw [mx_fv_setL hc]) (fun _ _ => rfl) mx_up_ne] at hP1
            exact hP1
          · cases h
        · cases h
      · cases h
    · cases h
  | arraylength =>
    obtain rfl : n = _ := hn.resolve_right (by simp [mx_len])
    simp only [mx_len] at hd
    simp only [mx_ins] at h
    split at h
    · rename_i a r
      split at h
      · rename_i n1 f1 hz
        cases h
        exact va_tlen hx hb (oX _ _ _ hz s hE) hS rfl hd (kk _ _ _ hP hS hl)
      · split at h
        · rename_i t n1 hla
          cases h
          have hk := oL.1 _ _ hla
          have ht := oL.2.1 _ _ _ hla
          by_cases h3 : t = 3
          · exact va_alen (x := (n1, .inr (.inl (E a)))) hx hb hK hP a 3 (by rw [mx_wl_get hk]; simp only [mx_ce, hla, if_pos h3]) oL.2.2.2.2.2.2 rfl hd (kk _ _ _ hP hS hl)
          · have htt : ∃ ty, tys[t]? = some (cid t, ty) := by
              match t, ht, h3 with
              | 0, _, _ => exact ⟨_, oL.2.2.2.1⟩
              | 1, _, _ => exact ⟨_, oL.2.2.2.2.1⟩
              | 2, _, _ => exact ⟨_, oL.2.2.2.2.2.1⟩
              | 3, _, h3 => exact absurd rfl h3
            obtain ⟨ty, hty⟩ := htt
            exact va_alen (x := (n1, .inl (D a))) hx hb hK hP a t (by rw [mx_wl_get hk]; simp only [mx_ce, hla, if_neg h3]) hty rfl hd (kk _ _ _ hP hS hl)
        · rename_i t rs hla
          cases h
          obtain ⟨C, hC⟩ := oL.2.2.1 _ _ _ hla
          exact va_alen (x := (rs.length, .inr (.inr (.inr (.inr (fun j => (mx_nth rs j).map ad)))))) hx hb hK hP a t (by rw [mx_wl_get (oL.1 _ _ hla)]; simp only [mx_ce, hla]) hC rfl hd (kk _ _ _ hP hS hl)
        · cases h
    · cases h
  | iaload =>
    obtain rfl : n = _ := hn.resolve_right (by simp [mx_len])
    simp only [mx_len] at hd
    simp only [mx_ins] at h
    split at h
    · split at h
      · rename_i n1 f1 hz
        split at h
        · cases h
        · rename_i hi
          cases h
          exact va_ti hx hb (oX _ _ _ hz s hE) hS hi rfl hd (kk _ _ _ hP hS hl)
      · split at h
        · rename_i n1 hla
          split at h
          · cases h
          · rename_i hz
            cases h
            exact va_iald hx hb hK hP _ 0 (by rw [mx_wl_get (oL.1 _ _ hla)]; simp only [mx_ce, hla]; rfl) oL.2.2.2.1 hz hd (kk _ _ _ hP hS hl)
        · cases h
    · cases h
  | baload =>
    obtain rfl : n = _ := hn.resolve_right (by simp [mx_len])
    simp only [mx_len] at hd
    simp only [mx_ins] at h
    split at h
    · split at h
      · rename_i n1 hla
        split at h
        · cases h
        · rename_i hz
          cases h
          exact va_bald hx hb hK hP _ 1 (by rw [mx_wl_get (oL.1 _ _ hla)]; simp only [mx_ce, hla]; rfl) oL.2.2.2.2.1 hz hd (kk _ _ _ hP hS hl)
      · rename_i n1 hla
        split at h
        · cases h
        · rename_i hz
          cases h
          exact va_zald hx hb hK hP _ 2 (by rw [mx_wl_get (oL.1 _ _ hla)]; simp only [mx_ce, hla]; rfl) oL.2.2.2.2.2.1 hz hd (kk _ _ _ hP hS hl)
      · cases h
    · cases h
  | laload =>
    obtain rfl : n = _ := hn.resolve_right (by simp [mx_len])
    simp only [mx_len] at hd
    simp only [mx_ins] at h
    split at h
    · split at h
      · rename_i n1 hla
        split at h
        · cases h
        · rename_i hz
          cases h
          exact va_lald hx hb hK hP _ 3 (by rw [mx_wl_get (oL.1 _ _ hla)]; simp only [mx_ce, hla]; rfl) oL.2.2.2.2.2.2 hz hd (kk _ _ _ hP hS hl)
      · cases h
    · cases h
  | aaload =>
    obtain rfl : n = _ := hn.resolve_right (by simp [mx_len])
    simp only [mx_len] at hd
    simp only [mx_ins] at h
    split at h
    · rename_i i0 a r
      split at h
      · rename_i t rs hla
        split at h
        · cases h
        · rename_i hz
          split at h
          · rename_i b hb2
            cases h
            obtain ⟨C, hC⟩ := oL.2.2.1 _ _ _ hla
            refine va_aldq (i := i0) (n := rs.length) (f := fun j => (mx_nth rs j).map ad) hx hb hK hP a t (by rw [mx_wl_get (oL.1 _ _ hla)]; simp only [mx_ce, hla]) hC (fun q => q.elim hz (fun q => absurd (mx_nth_lt hb2) (Nat.not_lt.mpr q))) hd ?_
            rw [hb2]
            exact kk _ _ _ hP hS hl
          · cases h
      · cases h
    · cases h
  | iastore =>
    obtain rfl : n = _ := hn.resolve_right (by simp [mx_len])
    simp only [mx_len] at hd
    simp only [mx_ins] at h
    split at h
    · rename_i x i0 a r
      split at h
      · rename_i n1 hla
        split at h
        · cases h
        · rename_i hz
          cases h
          refine va_iast hx hb hK hP hD hS _ 0 (by rw [mx_wl_get (oL.1 _ _ hla)]; simp only [mx_ce, hla]; rfl) oL.2.2.2.1 hz hd (fun H1 locs1 hP1 hD1 hS1 => kk _ _ _ ?_ hS1 hl)
          rw [mx_wl_set (D' := va_up D a (upd (D a) i0.toNatClampNeg x)) (E' := E) (by simp only [mx_ce, hla, mx_up_eq]; rfl) mx_up_ne (fun _ _ => rfl)] at hP1
          exact hP1
      · cases h
    · cases h
  | bastore =>
    obtain rfl : n = _ := hn.resolve_right (by simp [mx_len])
    simp only [mx_len] at hd
    simp only [mx_ins] at h
    split at h
    · rename_i x i0 a r
      split at h
      · rename_i n1 hla
        split at h
        · cases h
        · rename_i hz
          cases h
          refine va_bast hx hb hK hP hD hS _ 1 (by rw [mx_wl_get (oL.1 _ _ hla)]; simp only [mx_ce, hla]; rfl) oL.2.2.2.2.1 hz hd (fun H1 locs1 hP1 hD1 hS1 => kk _ _ _ ?_ hS1 hl)
          rw [mx_wl_set (D' := va_up D a (upd (D a) i0.toNatClampNeg (vp_nar .byte x))) (E' := E) (by simp only [mx_ce, hla, mx_up_eq]; rfl) mx_up_ne (fun _ _ => rfl)] at hP1
          exact hP1
      · rename_i n1 hla
        split at h
        · cases h
        · rename_i hz
          cases h
          refine va_zast hx hb hK hP hD hS _ 2 (by rw [mx_wl_get (oL.1 _ _ hla)]; simp only [mx_ce, hla]; rfl) oL.2.2.2.2.2.1 hz hd (fun H1 locs1 hP1 hD1 hS1 => kk _ _ _ ?_ hS1 hl)
          rw [mx_wl_set (D' := va_up D a (upd (D a) i0.toNatClampNeg (vp_nar .boolean x))) (E' := E) (by simp only [mx_ce, hla, mx_up_eq]; rfl) mx_up_ne (fun _ _ => rfl)] at hP1
          exact hP1
      · cases h
    · cases h
  | lastore =>
    obtain rfl : n = _ := hn.resolve_right (by simp [mx_len])
    simp only [mx_len] at hd
    simp only [mx_ins] at h
    split at h
    · rename_i x i0 a r
      split at h
      · rename_i n1 hla
        split at h
        · cases h
        · rename_i hz
          cases h
          refine va_last hx hb hK hP hD hS _ 3 (by rw [mx_wl_get (oL.1 _ _ hla)]; simp only [mx_ce, hla]; rfl) oL.2.2.2.2.2.2 hz hd (fun H1 locs1 hP1 hD1 hS1 => kk _ _ _ ?_ hS1 hl)
          rw [mx_wl_set (D' := D) (E' := va_up E a (vp_updL (E a) i0.toNatClampNeg x)) (by simp only [mx_ce, hla, mx_up_eq]; rfl) (fun _ _ => rfl) mx_up_ne] at hP1
          exact hP1
      · cases h
    · cases h
  | invokestatic idx =>
    obtain rfl : n = _ := hn.resolve_right (by simp [mx_len])
    simp only [mx_len] at hd
    simp only [mx_ins] at h
    split at h
    · rename_i q1 q2 d1 hck
      split at h
      · rename_i n2 dp a sp a0 r
        split at h
        · rename_i n0 n1 hl0 hl1
          split at h
          · cases h
          · rename_i hz
            cases h
            obtain ⟨z1, hz⟩ := mx_nor hz
            obtain ⟨z2, hz⟩ := mx_nor hz
            obtain ⟨z3, hz⟩ := mx_nor hz
            obtain ⟨z4, hz⟩ := mx_nor hz
            obtain ⟨z5, z6⟩ := mx_nor hz
            obtain ⟨w1, w2, w3, w4⟩ := (oA _ _ _ _ hck).1 rfl
            have hsum : ((st'.map (mx_av ad)).map fun v => v.category).sum ≤ 8 := by
              rw [List.map_map, show ((fun v : Value => v.category) ∘ mx_av ad) = (fun v => v.category) from funext (mx_av_cat ad)]
              omega
            refine va_copyi hx hb (hml.trans hl.1.1.symm) hown (hts _ w1) (hts _ w2) (hts _ w3) (hts _ w4) hK hP hD hS a0 a 0 0 (by rw [mx_wl_get (oL.1 _ _ hl0)]; simp only [mx_ce, hl0]; rfl) (by rw [mx_wl_get (oL.1 _ _ hl1)]; simp only [mx_ce, hl1]; rfl) oL.2.2.2.1 oL.2.2.2.1 rfl z1 z2 z3 (by omega) (by omega) (fun _ _ => rfl) (by have := hR.1; omega) (by rw [show nativeFrameWords "java/lang/System" "arraycopy" 5 = 7 by decide]; have := hR.2; omega) hd (fun H1 locs1 hP1 hD1 hS1 => kk _ _ _ ?_ hS1 hl)
            rw [mx_wl_set (D' := va_up D a (va_cpy (D a0) (D a) sp.toNatClampNeg dp.toNatClampNeg n2.toNatClampNeg)) (E' := E) (by simp only [mx_ce, hl1, mx_up_eq]; rfl) mx_up_ne (fun _ _ => rfl)] at hP1
            exact hP1
        · rename_i n0 n1 hl0 hl1
          split at h
          · cases h
          · rename_i hz
            cases h
            obtain ⟨z1, hz⟩ := mx_nor hz
            obtain ⟨z2, hz⟩ := mx_nor hz
            obtain ⟨z3, hz⟩ := mx_nor hz
            obtain ⟨z4, hz⟩ := mx_nor hz
            obtain ⟨z5, z6⟩ := mx_nor hz
            obtain ⟨w1, w2, w3, w4⟩ := (oA _ _ _ _ hck).1 rfl
            have hsum : ((st'.map (mx_av ad)).map fun v => v.category).sum ≤ 8 := by
              rw [List.map_map, show ((fun v : Value => v.category) ∘ mx_av ad) = (fun v => v.category) from funext (mx_av_cat ad)]
              omega
            refine va_copyl hx hb (hml.trans hl.1.1.symm) hown (hts _ w1) (hts _ w2) (hts _ w3) (hts _ w4) hK hP hD hS a0 a 3 3 (by rw [mx_wl_get (oL.1 _ _ hl0)]; simp only [mx_ce, hl0]; rfl) (by rw [mx_wl_get (oL.1 _ _ hl1)]; simp only [mx_ce, hl1]; rfl) oL.2.2.2.2.2.2 oL.2.2.2.2.2.2 rfl z1 z2 z3 (by omega) (by omega) (fun _ _ => rfl) (by have := hR.1; omega) (by rw [show nativeFrameWords "java/lang/System" "arraycopy" 5 = 7 by decide]; have := hR.2; omega) hd (fun H1 locs1 hP1 hD1 hS1 => kk _ _ _ ?_ hS1 hl)
            rw [mx_wl_set (D' := D) (E' := va_up E a (va_cpy (E a0) (E a) sp.toNatClampNeg dp.toNatClampNeg n2.toNatClampNeg)) (by simp only [mx_ce, hl1, mx_up_eq]; rfl) (fun _ _ => rfl) mx_up_ne] at hP1
            exact hP1
        · cases h
      · cases h
    · rename_i q1 q2 d1 hck
      split at h
      · rename_i y2 x2 r
        split at h
        · cases h
        · rename_i hz
          cases h
          obtain ⟨w1, w2, w3, w4⟩ := (oA _ _ _ _ hck).2.1 rfl
          have hsum : ((r.map (mx_av ad)).map fun v => v.category).sum ≤ 8 := by
            rw [List.map_map, show ((fun v : Value => v.category) ∘ mx_av ad) = (fun v => v.category) from funext (mx_av_cat ad)]
            omega
          exact va_mmin hx hb (hml.trans hl.1.1.symm) hown (hts _ w1) (hts _ w2) (hts _ w3) (hts _ w4) (by have := hR.1; omega) (by have := hR.2; omega) hcs.1 hcs.2 hd (kk _ _ _ hP hS hl)
      · cases h
    · rename_i q1 q2 d1 hck
      split at h
      · rename_i y2 x2 r
        split at h
        · cases h
        · rename_i hz
          cases h
          obtain ⟨w1, w2, w3, w4⟩ := (oA _ _ _ _ hck).2.2 rfl
          have hsum : ((r.map (mx_av ad)).map fun v => v.category).sum ≤ 8 := by
            rw [List.map_map, show ((fun v : Value => v.category) ∘ mx_av ad) = (fun v => v.category) from funext (mx_av_cat ad)]
            omega
          exact va_mmax hx hb (hml.trans hl.1.1.symm) hown (hts _ w1) (hts _ w2) (hts _ w3) (hts _ w4) (by have := hR.1; omega) (by have := hR.2; omega) hcs.1 hcs.2 hd (kk _ _ _ hP hS hl)
      · cases h
    · cases h
  | _ => cases h
end MS
