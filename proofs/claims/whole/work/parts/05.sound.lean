/-! ===== a run of the small machine is a run of the real one ===== -/
def mx_CT (mt : Nat → Option (MethodName × ByteArray × Nat × Option FieldType)) (GW : List Cond) (base : Nat) (ad : Nat → Nat) (cid : Nat → ClassId) (lay : Nat → Option mx_Sh) (N : Nat) (Dg : va_G) (cl : List vw_C) (tys : List (ClassId × FieldType)) (Ext : State → Prop) (l : Launch) (z : Nat) (as : List Value) (D : mx_D) (E : mx_E) (r : Option Value) (D' : mx_D) (E' : mx_E) (d : Nat) : Prop :=
  ∀ (nm : MethodName) (bs : ByteArray) (mL : Nat) (ret : Option FieldType), mt z = some (nm, bs, mL, ret) → Met l nm (Cond.code nm bs mL ret :: GW) (mx_rm d) (va_Pc (as.map (mx_av ad)) (mx_Wd base ad cid lay N Dg cl tys Ext D E)) (mx_Q base ad cid lay N Dg cl tys Ext r D' E') 0 0 (mx_A base)
/-- what is asked of the words beside the world -/
def mx_okE (base : Nat) (Ext : State → Prop) : Prop := (∀ s U : State, Ext s → s.WarmedH U.vm → (∀ a : Nat, a < s.heap.size → ¬ mx_A base a → U.heap[a]? = s.heap[a]?) → Ext U) ∧ (∀ s U : State, U.vm = s.vm → U.heap = s.heap → Ext s → Ext U)
def mx_okS (mt : Nat → Option (MethodName × ByteArray × Nat × Option FieldType)) (sp : Nat → List Value → Option Value) (GW : List Cond) (base : Nat) (ad : Nat → Nat) (cid : Nat → ClassId) (lay : Nat → Option mx_Sh) (N : Nat) (Dg : va_G) (cl : List vw_C) (tys : List (ClassId × FieldType)) (Ext : State → Prop) (l : Launch) : Prop :=
  (∀ (z : Nat) (as : List Value) (v : Value), sp z as = some v → (∃ q, mt z = some q) ∧ ∀ (D : mx_D) (E : mx_E) (d : Nat), 8 ≤ d → mx_CT mt GW base ad cid lay N Dg cl tys Ext l z as D E (some v) D E d) ∧
  ∀ (z b : Nat) (as : List Value) (v : Value) (q : MethodName × ByteArray × Nat × Option FieldType), sp z (.ref b :: as) = some v → mt z = some q → ∀ s, Ext s → ∃ cellB : Cell, s.heap[ad b]? = some cellB ∧ cellB.vm.isStatics = false ∧ s.vm.findClass q.1.cls = some cellB.cls ∧ ¬ mx_A base (ad b)
section MZ
variable {cd : Nat → Nat → Option Instr} {mt : Nat → Option (MethodName × ByteArray × Nat × Option FieldType)} {cz : Nat → Nat} {sp : Nat → List Value → Option Value}
variable {fl : Nat → Nat → Option (Nat × Nat × Nat × Bool)} {ko : Nat → Nat → Option Value} {gs : Nat → Nat → Option Nat} {ck : Nat → Nat → Option (Nat × Nat × Nat)} {lay : Nat → Option mx_Sh} {ext : Nat → Option (Nat × (Nat → Int32))}
variable {ad : Nat → Nat} {cid : Nat → ClassId} {N base : Nat} {GW : List Cond} {cl : List vw_C} {Dg : va_G} {tys : List (ClassId × FieldType)} {Ext : State → Prop} {l : Launch}
theorem mx_blind (oE : mx_okE base Ext) (as : List Value) (D : mx_D) (E : mx_E) : FrameBlind (va_Pc as (mx_Wd base ad cid lay N Dg cl tys Ext D E)) := by
  intro a U g mk q
  obtain ⟨q0, q1, qP, qK, qD, qE⟩ := q
  exact ⟨q0, q1, qP, va_K.moved (u := U) (U := U.calling g mk a) (Vm.Alike.refl U.vm) qK, qD, oE.2 U (U.calling g mk a) rfl rfl qE⟩
theorem mx_sum_av (st : List Value) : ((st.map (mx_av ad)).map fun v => v.category).sum = (st.map fun v => v.category).sum := by
  rw [List.map_map, show ((fun v : Value => v.category) ∘ mx_av ad) = (fun v => v.category) from funext (mx_av_cat ad)]
theorem mx_stk {st rest : List Value} {n b : Nat} (h : st.drop n = .ref b :: rest) : st.map (mx_av ad) = ((st.take n).reverse.map (mx_av ad)).reverse ++ .ref (ad b) :: rest.map (mx_av ad) := by
  have e : st = st.take n ++ (.ref b :: rest) := by rw [← h, List.take_append_drop]
  have e2 : st.map (mx_av ad) = (st.take n).map (mx_av ad) ++ (Value.ref b :: rest).map (mx_av ad) := by rw [← List.map_append, ← e]
  rw [e2, List.map_reverse, List.reverse_reverse]
  rfl
/-- one step within a frame -/
theorem mx_one (oM : mx_okM cd mt fl ko gs ck ad base GW cl Ext) (oN : mx_okN mt cz ck GW cl) (oC : mx_okC cl GW) (oL : mx_okL lay N cid tys) (oX : mx_okX ext ad base Ext) (oE : mx_okE base Ext) (oS : mx_okS mt sp GW base ad cid lay N Dg cl tys Ext l) (oG : ∀ w ∈ GW, goodWord w = true)
    {run : Nat → Nat → mx_S → mx_R} (hrun : ∀ (d z : Nat) (as : List Value) (D : mx_D) (E : mx_E) (mL : Nat) (nm : MethodName) (bs : ByteArray) (ret : Option FieldType) (r : Option Value) (D' : mx_D) (E' : mx_E), mt z = some (nm, bs, mL, ret) → mx_len1 as ≤ mL → run d z (0, mx_ent mL as, [], D, E) = some (r, D', E') → mx_CT mt GW base ad cid lay N Dg cl tys Ext l z as D E r D' E' d)
    {d y : Nat} {S S' : mx_S} (h : mx_stp cd mt cz sp fl ko gs ck lay ext run d y S = some S')
    {nm : MethodName} {bs : ByteArray} {mL : Nat} {ret : Option FieldType} (hmt : mt y = some (nm, bs, mL, ret))
    {p : Program} {e : Env} {s : State} {m : MethodId} {args : Array Value} {below : List Frame} {meth : Method} {c : Code} {H : Heap} {locs : List Loc} {ls : Array Slot} {Q : State → Prop} {R : Room} {cells slots : Nat} (hR : d ≤ R.frames ∧ 64 * d ≤ R.locals) (hcs : cells ≤ R.cells ∧ slots ≤ R.slots)
    (hx : p.tables.exec = Jvm.exec) (hb : c.code = bs) (hml : c.maxLocals = mL) (hown : s.vm.findClass nm.cls = some m.cls) (hts : ∀ w ∈ GW, w.before args s = true) (hK : va_K Dg cl tys s) (hE : Ext s) (hbase : base ≤ s.heap.size)
    (hP : va_P Dg cl (mx_wl ad cid lay N S.2.2.2.1 S.2.2.2.2) H) (hD : va_D (mx_A base) (mx_wl ad cid lay N S.2.2.2.1 S.2.2.2.2)) (hS : va_S (mx_A base) s.heap H locs) (hl : mx_has ad ls mL S.2.1)
    (kk : ∀ (H1 : Heap) (locs1 : List Loc) (ls1 : Array Slot), va_P Dg cl (mx_wl ad cid lay N S'.2.2.2.1 S'.2.2.2.2) H1 → va_S (mx_A base) s.heap H1 locs1 → mx_has ad ls1 mL S'.2.1 → W p l e R s m args below meth c H1 locs1 cells slots Q (F0 m S'.1 ls1 (S'.2.2.1.map (mx_av ad)))) :
    W p l e R s m args below meth c H locs cells slots Q (F0 m S.1 ls (S.2.2.1.map (mx_av ad))) := by
  obtain ⟨pc, L, st, D, E⟩ := S
  obtain ⟨pc', L', st', D', E'⟩ := S'
  dsimp only at h hP hD hl kk ⊢
  obtain ⟨-, hm45, hcd, oF, oK, oGs, oA⟩ := oM y nm bs mL ret hmt
  simp only [mx_stp] at h
  split at h
  case h_2 => cases h
  rename_i i hi
  obtain ⟨n, hdec, hlen⟩ := hcd _ _ hi
  split at h
  case h_2 => exact mx_ins_snd hR hcs hx hb hml hown hts hK hE oC oF oL oK oGs oX oA hP hD hS hl i hdec hlen h kk
  rename_i k z as rest hcal
  split at h
  case h_1 => cases h
  rename_i d'
  -- the callee's world at its entry
  have hWd : ∀ U : State, U.heap = H → s.WarmedH U.vm → mx_Wd base ad cid lay N Dg cl tys Ext D E U := fun U hU hW =>
    ⟨by rw [hU]; exact Nat.le_trans hbase hS.1, by rw [hU]; exact hP, va_K.moved hW.alike hK, hD, oE.1 s U hE hW (fun a h1 h2 => by rw [hU]; exact hS.2.1 a h1 h2)⟩
  simp only [mx_cal] at hcal
  split at hcal
  · -- a virtual call
    rename_i idx
    have hdec : decode bs pc = .ok (.invokevirtual idx, 3) := by
      rcases hlen with rfl | hlen
      · exact hdec
      · simp [mx_len] at hlen
    split at hcal
    · -- an own method
      rename_i z0 n0 hck
      split at hcal
      case h_2 => cases hcal
      rename_i b rest0 hdrop
      split at hcal
      case h_2 => cases hcal
      rename_i ci fs hla
      split at hcal
      case isFalse => cases hcal
      rename_i hcond
      cases hcal
      obtain ⟨hci, htk, hsum⟩ := hcond
      rw [if_neg (by decide)] at h
      split at h
      case h_2 => cases h
      rename_i nmz bz mz rz hz
      split at h
      case isTrue => cases h
      rename_i hlt
      split at h
      case h_2 => cases h
      rename_i v D1 E1 hr
      cases h
      obtain ⟨-, hm45z, -, -⟩ := oM z nmz bz mz rz hz
      have hct := hrun d' z _ D E mz nmz bz rz v D' E' hz (Nat.le_of_not_lt hlt) hr nmz bz mz rz hz
      rcases oN y idx 0 z n0 hck with h5 | hN
      · omega
      obtain ⟨w1, w2, w3, -, w5, w6, hcodez⟩ := hN _ _ hmt hz
      obtain ⟨w5a, w5b⟩ := w5 (Or.inl rfl)
      obtain ⟨qc, hqc, hqn⟩ := w6 rfl
      have hk := oL.1 _ _ hla
      have hget : (mx_wl ad cid lay N D E)[b]? = some (ad b, .inr (ci, mx_fv ad D E b 0 fs)) := by rw [mx_wl_get hk]; simp only [mx_ce, hla]
      refine mx_call (r := v) (D' := D') (E' := E') (rest := rest.map (mx_av ad)) (va_runV (As := ((st.take n0).reverse).map (mx_av ad)) (C := nmz.cls) (b := ad b) (bytes := bz) (maxL := mz) (ret := rz) (n := n0) ⟨hx, hb, hml, hown, hts⟩ hct ⟨callB_of n0 hts (mx_good oG hcodez) rfl rfl rfl (hts _ w2) (hts _ w1) w3 ⟨by simp only [mx_rm]; have := hR.1; omega, by simp only [mx_rm]; have := hR.2; omega⟩, hts _ w5a, hts _ w5b⟩
        ⟨mx_blind oE _ D E, ?_, fun U hU hW => ⟨rfl, hWd U hU hW⟩⟩ rfl (by rw [List.length_map, List.length_reverse]; exact htk) (hl.1.1) ?_ (lv_room (by rw [mx_sum_av]; exact hsum)) hdec hcs) hS ?_
      · subst hci
        obtain ⟨cell, q1, q2, q3⟩ := va_recv hK hP hqc hget
        exact ⟨cell, q1, q2, by rw [← hqn]; exact q3⟩
      · exact mx_stk hdrop
      · intro H1 locs1 hP1 hS1
        have := kk H1 locs1 ls hP1 hS1 hl
        cases v <;> simpa using this
    · -- an outer method
      rename_i z0 n0 hck
      split at hcal
      case h_2 => cases hcal
      rename_i b rest0 hdrop
      split at hcal
      case isFalse => cases hcal
      rename_i hcond
      cases hcal
      obtain ⟨htk, hsum⟩ := hcond
      rw [if_pos rfl] at h
      split at h
      case h_2 => cases h
      rename_i v hsp
      split at h
      case isTrue => cases h
      rename_i hd8
      cases h
      obtain ⟨⟨⟨nmz, bz, mz, rz⟩, hz⟩, hctf⟩ := oS.1 _ _ _ hsp
      obtain ⟨-, hm45z, -, -⟩ := oM z nmz bz mz rz hz
      have hct := hctf D E d' (by omega) nmz bz mz rz hz
      rcases oN y idx 3 z n0 hck with h5 | hN
      · omega
      obtain ⟨w1, w2, w3, -, w5, -, hcodez⟩ := hN _ _ hmt hz
      obtain ⟨w5a, w5b⟩ := w5 (Or.inr rfl)
      refine mx_call (r := some v) (D' := D) (E' := E) (rest := rest.map (mx_av ad)) (va_runV (As := ((st.take n0).reverse).map (mx_av ad)) (C := nmz.cls) (b := ad b) (bytes := bz) (maxL := mz) (ret := rz) (n := n0) ⟨hx, hb, hml, hown, hts⟩ hct ⟨callB_of n0 hts (mx_good oG hcodez) rfl rfl rfl (hts _ w2) (hts _ w1) w3 ⟨by simp only [mx_rm]; have := hR.1; omega, by simp only [mx_rm]; have := hR.2; omega⟩, hts _ w5a, hts _ w5b⟩
        ⟨mx_blind oE _ D E, ?_, fun U hU hW => ⟨rfl, hWd U hU hW⟩⟩ rfl (by rw [List.length_map, List.length_reverse]; exact htk) (hl.1.1) ?_ (lv_room (by rw [mx_sum_av]; exact hsum)) hdec hcs) hS ?_
      · obtain ⟨cell, q1, q2, q3, q4⟩ := oS.2 _ _ _ _ _ hsp hz s hE
        exact ⟨cell, by rw [hS.2.1 _ (Array.getElem?_eq_some_iff.mp q1).1 q4]; exact q1, q2, q3⟩
      · exact mx_stk hdrop
      · intro H1 locs1 hP1 hS1
        have := kk H1 locs1 ls hP1 hS1 hl
        simpa using this
    · cases hcal
  · -- a static call
    rename_i idx
    have hdec : decode bs pc = .ok (.invokestatic idx, 3) := by
      rcases hlen with rfl | hlen
      · exact hdec
      · simp [mx_len] at hlen
    split at hcal
    · rename_i z0 n0 hck
      split at hcal
      case isFalse => cases hcal
      rename_i hcond
      cases hcal
      obtain ⟨htk, hsum⟩ := hcond
      rw [if_neg (by decide)] at h
      split at h
      case h_2 => cases h
      rename_i nmz bz mz rz hz
      split at h
      case isTrue => cases h
      rename_i hlt
      split at h
      case h_2 => cases h
      rename_i v D1 E1 hr
      cases h
      obtain ⟨-, hm45z, -, -⟩ := oM z nmz bz mz rz hz
      have hct := hrun d' z _ D E mz nmz bz rz v D' E' hz (Nat.le_of_not_lt hlt) hr nmz bz mz rz hz
      rcases oN y idx 1 z n0 hck with h5 | hN
      · omega
      obtain ⟨w1, w2, w3, w4, -, -, hcodez⟩ := hN _ _ hmt hz
      refine mx_call (r := v) (D' := D') (E' := E') (rest := (st.drop n0).map (mx_av ad)) (va_runS (As := ((st.take n0).reverse).map (mx_av ad)) (bytes := bz) (maxL := mz) (ret := rz) (n := n0) ⟨hx, hb, hml, hown, hts⟩ hct ⟨callB_of n0 hts (mx_good oG hcodez) rfl rfl rfl (hts _ w2) (hts _ w1) w3 ⟨by simp only [mx_rm]; have := hR.1; omega, by simp only [mx_rm]; have := hR.2; omega⟩, hts _ (w4 rfl)⟩
        ⟨mx_blind oE _ D E, fun U hU hW => ⟨rfl, hWd U hU hW⟩⟩ rfl (by rw [List.length_map, List.length_reverse]; exact htk) (hl.1.1) ?_ (lv_room (by rw [mx_sum_av]; exact hsum)) hdec hcs) hS ?_
      · show st.map (mx_av ad) = _
        rw [List.map_reverse, List.reverse_reverse, ← List.map_append, List.take_append_drop]
      · intro H1 locs1 hP1 hS1
        have := kk H1 locs1 ls hP1 hS1 hl
        cases v <;> simpa using this
    · cases hcal
  · cases hcal
end MZ
