/-! ===== whole frames: from a run of the small machine to a contract ===== -/
section MY
variable {cd : Nat → Nat → Option Instr} {mt : Nat → Option (MethodName × ByteArray × Nat × Option FieldType)} {cz : Nat → Nat} {sp : Nat → List Value → Option Value}
variable {fl : Nat → Nat → Option (Nat × Nat × Nat × Bool)} {ko : Nat → Nat → Option Value} {gs : Nat → Nat → Option Nat} {ck : Nat → Nat → Option (Nat × Nat × Nat)} {lay : Nat → Option mx_Sh} {ext : Nat → Option (Nat × (Nat → Int32))}
variable {ad : Nat → Nat} {cid : Nat → ClassId} {N base : Nat} {GW : List Cond} {cl : List vw_C} {Dg : va_G} {tys : List (ClassId × FieldType)} {Ext : State → Prop} {l : Launch}
/-- the end of a frame -/
theorem mx_leave (oM : mx_okM cd mt fl ko gs ck ad base GW cl Ext) (oE : mx_okE base Ext)
    {y : Nat} {S : mx_S} {r : Option Value} {D' : mx_D} {E' : mx_E} (h : mx_end cd mt y S = some (r, D', E'))
    {nm : MethodName} {bs : ByteArray} {mL : Nat} {ret : Option FieldType} (hmt : mt y = some (nm, bs, mL, ret))
    {p : Program} {e : Env} {s : State} {m : MethodId} {args : Array Value} {below : List Frame} {meth : Method} {c : Code} {H : Heap} {locs : List Loc} {ls : Array Slot} {R : Room} {cells slots : Nat}
    (hx : p.tables.exec = Jvm.exec) (hb : c.code = bs) (hrt : meth.sig.returnType = ret) (hlocks : meth.locks = false) (hK : va_K Dg cl tys s) (hE : Ext s) (hbase : base ≤ s.heap.size)
    (hP : va_P Dg cl (mx_wl ad cid lay N S.2.2.2.1 S.2.2.2.2) H) (hD : va_D (mx_A base) (mx_wl ad cid lay N S.2.2.2.1 S.2.2.2.2)) (hS : va_S (mx_A base) s.heap H locs) :
    W p l e R s m args below meth c H locs cells slots (MQ below (mx_Q base ad cid lay N Dg cl tys Ext r D' E') args s cells slots (mx_A base)) (F0 m S.1 ls (S.2.2.1.map (mx_av ad))) := by
  obtain ⟨pc, L, st, D, E⟩ := S
  dsimp only at h hP hD ⊢
  obtain ⟨-, -, hcd, -⟩ := oM y nm bs mL ret hmt
  simp only [mx_end, hmt] at h
  split at h
  case h_2 => cases h
  rename_i q1 q2 q3 ret0 i hq hi
  cases hq
  obtain ⟨n, hdec, hlen⟩ := hcd _ _ hi
  have hWd : ∀ t : State, t.heap = H → s.WarmedH t.vm → mx_Wd base ad cid lay N Dg cl tys Ext D E t ∧ va_F (mx_A base) s t := fun t ht hW =>
    ⟨⟨by rw [ht]; exact Nat.le_trans hbase hS.1, by rw [ht]; exact hP, va_K.moved hW.alike hK, hD, oE.1 s t hE hW (fun a h1 h2 => by rw [ht]; exact hS.2.1 a h1 h2)⟩, hS.F ht⟩
  simp only [mx_fin] at h
  split at h
  · obtain rfl : n = 1 := hlen.resolve_right (by simp [mx_len])
    split at h
    · cases h
      exact W.iret hx hb hrt (fun t ht hW => ⟨rfl, hWd t ht hW⟩) hS.2.2 hdec hlocks
    · split at h
      · rename_i hv
        cases h
        refine W.zret (ty := .boolean) hx hb hrt ?_ (fun t ht hW => ⟨rfl, hWd t ht hW⟩) hS.2.2 hdec hlocks
        rcases hv with rfl | rfl <;> decide
      · cases h
    · cases h
  · obtain rfl : n = 1 := hlen.resolve_right (by simp [mx_len])
    split at h
    · cases h
      exact W.lret hx hb hrt (fun t ht hW => ⟨rfl, hWd t ht hW⟩) hS.2.2 hdec hlocks
    · cases h
  · obtain rfl : n = 1 := hlen.resolve_right (by simp [mx_len])
    split at h
    · cases h
      exact W.vret hx hb hrt (fun t ht hW => ⟨rfl, hWd t ht hW⟩) hS.2.2 hdec hlocks
    · cases h
  · cases h
/-- what a frame's run gives -/
def mx_Snd (mt : Nat → Option (MethodName × ByteArray × Nat × Option FieldType)) (GW : List Cond) (base : Nat) (ad : Nat → Nat) (cid : Nat → ClassId) (lay : Nat → Option mx_Sh) (N : Nat) (Dg : va_G) (cl : List vw_C) (tys : List (ClassId × FieldType)) (Ext : State → Prop) (l : Launch) (run : Nat → Nat → mx_S → mx_R) : Prop :=
  ∀ (d y : Nat) (S : mx_S) (r : Option Value) (D' : mx_D) (E' : mx_E), run d y S = some (r, D', E') → ∀ (nm : MethodName) (bs : ByteArray) (mL : Nat) (ret : Option FieldType), mt y = some (nm, bs, mL, ret) → ∀ (p : Program) (e : Env) (s : State) (m : MethodId) (args : Array Value) (below : List Frame) (meth : Method) (c : Code) (H : Heap) (locs : List Loc) (ls : Array Slot) (R : Room) (cells slots : Nat), d ≤ R.frames ∧ 64 * d ≤ R.locals → cells ≤ R.cells ∧ slots ≤ R.slots →
    p.tables.exec = Jvm.exec → c.code = bs → c.maxLocals = mL → meth.sig.returnType = ret → meth.locks = false → s.vm.findClass nm.cls = some m.cls → (∀ w ∈ GW, w.before args s = true) → va_K Dg cl tys s → Ext s → base ≤ s.heap.size →
    va_P Dg cl (mx_wl ad cid lay N S.2.2.2.1 S.2.2.2.2) H → va_D (mx_A base) (mx_wl ad cid lay N S.2.2.2.1 S.2.2.2.2) → va_S (mx_A base) s.heap H locs → mx_has ad ls mL S.2.1 →
    W p l e R s m args below meth c H locs cells slots (MQ below (mx_Q base ad cid lay N Dg cl tys Ext r D' E') args s cells slots (mx_A base)) (F0 m S.1 ls (S.2.2.1.map (mx_av ad)))
theorem mx_met (oM : mx_okM cd mt fl ko gs ck ad base GW cl Ext) {run : Nat → Nat → mx_S → mx_R} (hrun : mx_Snd mt GW base ad cid lay N Dg cl tys Ext l run)
    (d z : Nat) (as : List Value) (D : mx_D) (E : mx_E) (mL : Nat) (nm : MethodName) (bs : ByteArray) (ret : Option FieldType) (r : Option Value) (D' : mx_D) (E' : mx_E) (hz : mt z = some (nm, bs, mL, ret)) (hlen : mx_len1 as ≤ mL) (h : run d z (0, mx_ent mL as, [], D, E) = some (r, D', E')) : mx_CT mt GW base ad cid lay N Dg cl tys Ext l z as D E r D' E' d := by
  intro nm2 bs2 mL2 ret2 hz2
  rw [hz] at hz2
  cases hz2
  obtain ⟨hpl, -, -, -⟩ := oM z nm bs mL ret hz
  refine Met.ofW (cc := bs) (maxL := mL) (ret := ret) hpl rfl ?_
  intro p e s m args below meth c s₁ B hml hv
  obtain ⟨rfl, hbase, hP, hK, hD, hE⟩ := hv
  have hts := atoms_spec (ws := Cond.code nm bs mL ret :: GW) B.pre
  have hown : s.vm.findClass nm.cls = some m.cls := findClass_of_methodNamed B.named
  rw [lg_entry_eq]
  exact hrun d z _ r D' E' h nm bs mL ret hz p e s m _ below meth c s.heap [] _ (mx_rm d) 0 0 ⟨Nat.le_refl _, Nat.le_refl _⟩ ⟨Nat.le_refl _, Nat.le_refl _⟩ B.exec B.bytes hml B.returns B.notSynchronized hown (fun w hw => hts w (List.mem_cons_of_mem _ hw)) hK hE hbase hP hD va_S.rf (mx_has_ent hlen)
theorem mx_snd (oM : mx_okM cd mt fl ko gs ck ad base GW cl Ext) (oN : mx_okN mt cz ck GW cl) (oC : mx_okC cl GW) (oL : mx_okL lay N cid tys) (oX : mx_okX ext ad base Ext) (oE : mx_okE base Ext) (oS : mx_okS mt sp GW base ad cid lay N Dg cl tys Ext l) (oG : ∀ w ∈ GW, goodWord w = true) :
    ∀ f : Nat, mx_Snd mt GW base ad cid lay N Dg cl tys Ext l (mx_run cd mt cz sp fl ko gs ck lay ext f) := by
  intro f
  induction f with
  | zero => intro d y S r D' E' h; cases h
  | succ f ih =>
    intro d y S r D' E' h nm bs mL ret hmt p e s m args below meth c H locs ls R cells slots hR hcs hx hb hml hrt hlocks hown hts hK hE hbase hP hD hS hl
    simp only [mx_run] at h
    split at h
    · rename_i r0 hend
      cases h
      exact mx_leave oM oE hend hmt hx hb hrt hlocks hK hE hbase hP hD hS
    · split at h
      case h_2 => cases h
      rename_i S' hstp
      exact mx_one oM oN oC oL oX oE oS oG (mx_met oM ih) hstp hmt hR hcs hx hb hml hown hts hK hE hbase hP hD hS hl
        (fun H1 locs1 ls1 hP1 hS1 hl1 => ih d y S' r D' E' h nm bs mL ret hmt p e s m args below meth c H1 locs1 ls1 R cells slots hR hcs hx hb hml hrt hlocks hown hts hK hE hbase hP1 (mx_wl_D hD) hS1 hl1)
/-- a run of a method gives its contract -/
theorem mx_ct (oM : mx_okM cd mt fl ko gs ck ad base GW cl Ext) (oN : mx_okN mt cz ck GW cl) (oC : mx_okC cl GW) (oL : mx_okL lay N cid tys) (oX : mx_okX ext ad base Ext) (oE : mx_okE base Ext) (oS : mx_okS mt sp GW base ad cid lay N Dg cl tys Ext l) (oG : ∀ w ∈ GW, goodWord w = true) (f d z : Nat) (as : List Value) (D : mx_D) (E : mx_E) (mL : Nat) (nm : MethodName) (bs : ByteArray) (ret : Option FieldType) (r : Option Value) (D' : mx_D) (E' : mx_E) (hz : mt z = some (nm, bs, mL, ret)) (hlen : mx_len1 as ≤ mL) (h : mx_run cd mt cz sp fl ko gs ck lay ext f d z (0, mx_ent mL as, [], D, E) = some (r, D', E')) : mx_CT mt GW base ad cid lay N Dg cl tys Ext l z as D E r D' E' d :=
  mx_met oM (mx_snd oM oN oC oL oX oE oS oG f) d z as D E mL nm bs ret r D' E' hz hlen h
end MY
