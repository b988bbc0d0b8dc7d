/-! ===== the small machine's store as a world of cells ===== -/
def mx_av (ad : Nat → Nat) : Value → Value
  | .ref k => .ref (ad k)
  | v => v
theorem mx_av_cat (ad : Nat → Nat) (v : Value) : (mx_av ad v).category = v.category := by cases v <;> rfl
def mx_f1 (ad : Nat → Nat) (D : mx_D) (E : mx_E) (k j : Nat) : Nat → Value
  | 0 => .int (D k j)
  | 1 => .long (E k j)
  | r + 2 => .ref (ad r)
def mx_fv (ad : Nat → Nat) (D : mx_D) (E : mx_E) (k : Nat) : Nat → List Nat → List Value
  | _, [] => []
  | j, c :: fs => mx_f1 ad D E k j c :: mx_fv ad D E k (j + 1) fs
theorem mx_fv_get (ad : Nat → Nat) (D : mx_D) (E : mx_E) (k : Nat) : ∀ (fs : List Nat) (j i : Nat), (mx_fv ad D E k j fs)[i]? = (mx_nth fs i).map (mx_f1 ad D E k (j + i))
  | [], j, i => by simp [mx_fv, mx_nth]
  | c :: fs, j, 0 => by simp [mx_fv, mx_nth]
  | c :: fs, j, i + 1 => by
    simp only [mx_fv, mx_nth, List.getElem?_cons_succ]
    rw [mx_fv_get ad D E k fs (j + 1) i, show j + 1 + i = j + (i + 1) by omega]
theorem mx_fv_len (ad : Nat → Nat) (D : mx_D) (E : mx_E) (k : Nat) : ∀ (fs : List Nat) (j : Nat), (mx_fv ad D E k j fs).length = fs.length
  | [], j => rfl
  | c :: fs, j => by simp [mx_fv, mx_fv_len ad D E k fs (j + 1)]
theorem mx_nth_lt {α : Type} {l : List α} {k : Nat} {v : α} (h : mx_nth l k = some v) : k < l.length := by
  rw [mx_nth_eq] at h
  exact (List.getElem?_eq_some_iff.mp h).1
def mx_ce (ad : Nat → Nat) (cid : Nat → ClassId) (lay : Nat → Option mx_Sh) (D : mx_D) (E : mx_E) (k : Nat) : va_E := match lay k with
  | some (.inl (t, n)) => if t = 3 then .inl (cid 3, n, .inr (.inl (E k))) else .inl (cid t, n, .inl (D k))
  | some (.inr (.inl (t, rs))) => .inl (cid t, rs.length, .inr (.inr (.inr (.inr (fun j => (mx_nth rs j).map ad)))))
  | some (.inr (.inr (ci, fs))) => .inr (ci, mx_fv ad D E k 0 fs)
  | none => .inr (0, [])
def mx_wl (ad : Nat → Nat) (cid : Nat → ClassId) (lay : Nat → Option mx_Sh) (N : Nat) (D : mx_D) (E : mx_E) : va_W := (List.range N).map fun k => (ad k, mx_ce ad cid lay D E k)
theorem mx_fv_congr {ad : Nat → Nat} {D D' : mx_D} {E E' : mx_E} {k : Nat} (h1 : D' k = D k) (h2 : E' k = E k) : ∀ (fs : List Nat) (j : Nat), mx_fv ad D' E' k j fs = mx_fv ad D E k j fs
  | [], j => rfl
  | c :: fs, j => by
    have e : mx_f1 ad D' E' k j c = mx_f1 ad D E k j c := by
      match c with
      | 0 => simp [mx_f1, h1]
      | 1 => simp [mx_f1, h2]
      | r + 2 => rfl
    simp only [mx_fv, e, mx_fv_congr h1 h2 fs (j + 1)]
theorem mx_ce_congr {ad : Nat → Nat} {cid : Nat → ClassId} {lay : Nat → Option mx_Sh} {D D' : mx_D} {E E' : mx_E} {k : Nat} (h1 : D' k = D k) (h2 : E' k = E k) : mx_ce ad cid lay D' E' k = mx_ce ad cid lay D E k := by
  unfold mx_ce
  split <;> simp only [h1, h2, mx_fv_congr h1 h2]
section MW
variable {ad : Nat → Nat} {cid : Nat → ClassId} {lay : Nat → Option mx_Sh} {N : Nat} {D D' : mx_D} {E E' : mx_E}
theorem mx_wl_get {k : Nat} (hk : k < N) : (mx_wl ad cid lay N D E)[k]? = some (ad k, mx_ce ad cid lay D E k) := by
  unfold mx_wl
  rw [List.getElem?_map, List.getElem?_range hk]
  rfl
theorem mx_wl_set {k : Nat} {e : va_E} (he : mx_ce ad cid lay D' E' k = e) (hD : ∀ j, j ≠ k → D' j = D j) (hE : ∀ j, j ≠ k → E' j = E j) : (mx_wl ad cid lay N D E).set k (ad k, e) = mx_wl ad cid lay N D' E' := by
  apply List.ext_getElem?
  intro j
  by_cases hj : j < N
  · by_cases hjk : j = k
    · subst hjk
      rw [List.getElem?_set_self (by unfold mx_wl; simp [hj]), mx_wl_get hj, he]
    · rw [List.getElem?_set_ne (Ne.symm hjk), mx_wl_get hj, mx_wl_get hj, mx_ce_congr (hD j hjk) (hE j hjk)]
  · have l1 : ((mx_wl ad cid lay N D E).set k (ad k, e)).length ≤ j := by unfold mx_wl; simp; omega
    have l2 : (mx_wl ad cid lay N D' E').length ≤ j := by unfold mx_wl; simp; omega
    rw [List.getElem?_eq_none l1, List.getElem?_eq_none l2]
theorem mx_wl_D {A : Nat → Prop} (h : va_D A (mx_wl ad cid lay N D E)) : va_D A (mx_wl ad cid lay N D' E') := by
  have key : ∀ (k : Nat) (q : Nat × va_E), (mx_wl ad cid lay N D' E')[k]? = some q → ∃ q0, (mx_wl ad cid lay N D E)[k]? = some q0 ∧ q0.1 = q.1 := by
    intro k q hk
    have hl : k < N := by
      have := (List.getElem?_eq_some_iff.mp hk).1
      unfold mx_wl at this
      simpa using this
    rw [mx_wl_get hl] at hk
    cases hk
    exact ⟨_, mx_wl_get hl, rfl⟩
  refine ⟨fun i j x y hi hj hxy => ?_, fun k q hk => ?_⟩
  · obtain ⟨x0, h1, h2⟩ := key i x hi
    obtain ⟨y0, h3, h4⟩ := key j y hj
    exact h.1 i j x0 y0 h1 h3 (h2.trans (hxy.trans h4.symm))
  · obtain ⟨q0, h1, h2⟩ := key k q hk
    rw [← h2]
    exact h.2 k q0 h1
theorem mx_up_ne {α : Type} {f : Nat → α} {k : Nat} {v : α} : ∀ j, j ≠ k → va_up f k v j = f j := fun j h => by simp [va_up, h]
theorem mx_up_eq {α : Type} {f : Nat → α} {k : Nat} {v : α} : va_up f k v k = v := by simp [va_up]
theorem mx_fv_setI {k j : Nat} {fs : List Nat} {x : Int32} (h : mx_nth fs j = some 0) : (mx_fv ad D E k 0 fs).set j (.int x) = mx_fv ad (va_up D k (upd (D k) j x)) E k 0 fs := by
  apply List.ext_getElem?
  intro i
  have hj := mx_nth_lt h
  rw [mx_fv_get, Nat.zero_add]
  by_cases hij : i = j
  · subst hij
    rw [List.getElem?_set_self (by rw [mx_fv_len]; exact hj), h]
    simp [mx_f1, va_up, upd]
  · rw [List.getElem?_set_ne (Ne.symm hij), mx_fv_get, Nat.zero_add]
    cases hc : mx_nth fs i with
    | none => rfl
    | some c =>
      match c with
      | 0 => simp [mx_f1, va_up, upd, hij]
      | 1 => simp [mx_f1]
      | r + 2 => rfl
theorem mx_fv_setL {k j : Nat} {fs : List Nat} {x : Int64} (h : mx_nth fs j = some 1) : (mx_fv ad D E k 0 fs).set j (.long x) = mx_fv ad D (va_up E k (vp_updL (E k) j x)) k 0 fs := by
  apply List.ext_getElem?
  intro i
  have hj := mx_nth_lt h
  rw [mx_fv_get, Nat.zero_add]
  by_cases hij : i = j
  · subst hij
    rw [List.getElem?_set_self (by rw [mx_fv_len]; exact hj), h]
    simp [mx_f1, va_up, vp_updL]
  · rw [List.getElem?_set_ne (Ne.symm hij), mx_fv_get, Nat.zero_add]
    cases hc : mx_nth fs i with
    | none => rfl
    | some c =>
      match c with
      | 0 => simp [mx_f1]
      | 1 => simp [mx_f1, va_up, vp_updL, hij]
      | r + 2 => rfl
end MW
/-! the locals -/
def mx_as (ad : Nat → Nat) : Nat → mx_L → List (Nat × Value)
  | _, [] => []
  | i, none :: l => mx_as ad (i + 1) l
  | i, some v :: l => (i, mx_av ad v) :: mx_as ad (i + 1) l
theorem mx_as_mem {ad : Nat → Nat} : ∀ (l : mx_L) (i : Nat) (q : Nat × Value), q ∈ mx_as ad i l → ∃ k v, mx_nth l k = some (some v) ∧ q = (i + k, mx_av ad v)
  | [], i, q, h => by simp [mx_as] at h
  | none :: l, i, q, h => by
    obtain ⟨k, v, h1, h2⟩ := mx_as_mem l (i + 1) q h
    exact ⟨k + 1, v, h1, by rw [h2, show i + 1 + k = i + (k + 1) by omega]⟩
  | some w :: l, i, q, h => by
    rcases List.mem_cons.mp h with rfl | h
    · exact ⟨0, w, rfl, rfl⟩
    · obtain ⟨k, v, h1, h2⟩ := mx_as_mem l (i + 1) q h
      exact ⟨k + 1, v, h1, by rw [h2, show i + 1 + k = i + (k + 1) by omega]⟩
theorem mx_as_in {ad : Nat → Nat} : ∀ (l : mx_L) (i k : Nat) (v : Value), mx_nth l k = some (some v) → (i + k, mx_av ad v) ∈ mx_as ad i l
  | [], i, k, v, h => by simp [mx_nth] at h
  | none :: l, i, 0, v, h => by simp [mx_nth] at h
  | some w :: l, i, 0, v, h => by
    simp only [mx_nth, Option.some.injEq] at h
    subst h
    exact List.mem_cons_self
  | none :: l, i, k + 1, v, h => by
    have := mx_as_in (ad := ad) l (i + 1) k v h
    rw [show i + 1 + k = i + (k + 1) by omega] at this
    exact this
  | some w :: l, i, k + 1, v, h => by
    have := mx_as_in (ad := ad) l (i + 1) k v h
    rw [show i + 1 + k = i + (k + 1) by omega] at this
    exact List.mem_cons_of_mem _ this
def mx_has (ad : Nat → Nat) (ls : Array Slot) (nL : Nat) (L : mx_L) : Prop := lv_has ls nL (mx_as ad 0 L) ∧ L.length = nL
theorem mx_has_at {ad : Nat → Nat} {ls : Array Slot} {nL : Nat} {L : mx_L} (h : mx_has ad ls nL L) {k : Nat} {v : Value} (hk : mx_nth L k = some (some v)) : ls[k]? = some (.val (mx_av ad v)) := by
  have := h.1.2.2 _ (mx_as_in (ad := ad) L 0 k v hk)
  rwa [Nat.zero_add] at this
theorem mx_nth_put {α : Type} (l : List α) (k j : Nat) (v : α) : mx_nth (mx_put l k v) j = if j = k then (if k < l.length then some v else none) else mx_nth l j := by
  rw [mx_nth_eq, mx_nth_eq, mx_put_eq, List.getElem?_set]
  by_cases h : k = j
  · subst h; simp
  · rw [if_neg h, if_neg (fun q => h q.symm)]
theorem mx_put_len {α : Type} (l : List α) (k : Nat) (v : α) : (mx_put l k v).length = l.length := by rw [mx_put_eq, List.length_set]
theorem mx_low_len (L : mx_L) (i : Nat) : (mx_low L i).length = L.length := by
  cases i with
  | zero => rfl
  | succ k =>
    simp only [mx_low]
    split <;> first | rfl | exact mx_put_len _ _ _
theorem mx_low_nth {L : mx_L} {i j : Nat} {v : Value} (h : mx_nth (mx_low L i) j = some (some v)) : mx_nth L j = some (some v) ∧ ¬ (j + 1 = i ∧ v.category = 2) := by
  cases i with
  | zero => exact ⟨h, by omega⟩
  | succ k =>
    simp only [mx_low] at h
    split at h
    · rename_i hv
      rw [mx_nth_put] at h
      by_cases hj : j = k
      · rw [if_pos hj] at h
        split at h <;> simp at h
      · rw [if_neg hj] at h
        exact ⟨h, by omega⟩
    · rename_i hv
      rw [mx_nth_put] at h
      by_cases hj : j = k
      · rw [if_pos hj] at h
        split at h <;> simp at h
      · rw [if_neg hj] at h
        exact ⟨h, by omega⟩
    · rename_i h1 h2
      refine ⟨h, fun q => ?_⟩
      have hjk : j = k := by omega
      subst hjk
      cases v with
      | long x => exact h1 x h
      | double x => exact h2 x h
      | _ => simp [Value.category] at q
theorem mx_has_st1 {ad : Nat → Nat} {ls ls' : Array Slot} {nL : Nat} {L : mx_L} {i : Nat} {v : Value} (h : mx_has ad ls nL L) (h' : lv_has ls' nL ((i, mx_av ad v) :: (mx_as ad 0 L).filter (fun q => !(q.1 == i) && !(q.1 + 1 == i && q.2.category == 2)))) : mx_has ad ls' nL (mx_st1 L i v) := by
  refine ⟨⟨h'.1, h'.2.1, fun q hq => ?_⟩, by rw [mx_st1, mx_put_len, mx_low_len, h.2]⟩
  obtain ⟨k, w, h1, rfl⟩ := mx_as_mem _ _ _ hq
  rw [Nat.zero_add]
  simp only [mx_st1, mx_nth_put] at h1
  by_cases hk : k = i
  · subst hk
    rw [if_pos rfl] at h1
    split at h1
    · cases h1
      exact h'.2.2 _ List.mem_cons_self
    · cases h1
  · rw [if_neg hk] at h1
    obtain ⟨h2, h3⟩ := mx_low_nth h1
    refine h'.2.2 (k, mx_av ad w) (List.mem_cons_of_mem _ (List.mem_filter.mpr ⟨?_, ?_⟩))
    · have := mx_as_in (ad := ad) L 0 k w h2
      rwa [Nat.zero_add] at this
    · simp only [Bool.and_eq_true, Bool.not_eq_true', beq_eq_false_iff_ne, ne_eq, Bool.and_eq_false_iff, mx_av_cat]
      refine ⟨hk, ?_⟩
      by_cases hz : k + 1 = i
      · exact Or.inr (fun q => h3 ⟨hz, q⟩)
      · exact Or.inl hz
theorem mx_has_st2 {ad : Nat → Nat} {ls ls' : Array Slot} {nL : Nat} {L : mx_L} {i : Nat} {v : Value} (h : mx_has ad ls nL L) (h' : lv_has ls' nL ((i, mx_av ad v) :: (mx_as ad 0 L).filter (fun q => !(q.1 == i) && (!(q.1 == i + 1) && !(q.1 + 1 == i && q.2.category == 2))))) : mx_has ad ls' nL (mx_st2 L i v) := by
  refine ⟨⟨h'.1, h'.2.1, fun q hq => ?_⟩, by rw [mx_st2, mx_put_len, mx_put_len, mx_low_len, h.2]⟩
  obtain ⟨k, w, h1, rfl⟩ := mx_as_mem _ _ _ hq
  rw [Nat.zero_add]
  simp only [mx_st2, mx_nth_put] at h1
  by_cases hk1 : k = i + 1
  · rw [if_pos hk1] at h1
    split at h1 <;> simp at h1
  · rw [if_neg hk1] at h1
    by_cases hk : k = i
    · subst hk
      rw [if_pos rfl] at h1
      split at h1
      · cases h1
        exact h'.2.2 _ List.mem_cons_self
      · cases h1
    · rw [if_neg hk] at h1
      obtain ⟨h2, h3⟩ := mx_low_nth h1
      refine h'.2.2 (k, mx_av ad w) (List.mem_cons_of_mem _ (List.mem_filter.mpr ⟨?_, ?_⟩))
      · have := mx_as_in (ad := ad) L 0 k w h2
        rwa [Nat.zero_add] at this
      · simp only [Bool.and_eq_true, Bool.not_eq_true', beq_eq_false_iff_ne, ne_eq, Bool.and_eq_false_iff, mx_av_cat]
        refine ⟨hk, hk1, ?_⟩
        by_cases hz : k + 1 = i
        · exact Or.inr (fun q => h3 ⟨hz, q⟩)
        · exact Or.inl hz
/-- the locals at a method's entry -/
theorem mx_ent_args {ad : Nat → Nat} : ∀ (args : List Value) (i k : Nat) (v : Value), mx_nth (args.flatMap fun v => if v.category = 2 then [some v, none] else [some v]) k = some (some v) → (i + k, mx_av ad v) ∈ lv_args i (args.map (mx_av ad))
  | [], i, k, v, h => by simp [mx_nth] at h
  | w :: args, i, k, v, h => by
    rw [List.flatMap_cons] at h
    by_cases hc : w.category = 2
    · rw [if_pos hc] at h
      simp only [List.map_cons, lv_args, mx_av_cat, if_pos hc]
      match k, h with
      | 0, h =>
        simp only [List.cons_append, mx_nth, Option.some.injEq] at h
        subst h
        exact List.mem_cons_self
      | 1, h => simp [mx_nth] at h
      | k + 2, h =>
        simp only [List.cons_append, List.nil_append, mx_nth] at h
        have := mx_ent_args (ad := ad) args (i + 2) k v h
        rw [show i + 2 + k = i + (k + 2) by omega] at this
        exact List.mem_cons_of_mem _ this
    · rw [if_neg hc] at h
      simp only [List.map_cons, lv_args, mx_av_cat, if_neg hc]
      match k, h with
      | 0, h =>
        simp only [List.cons_append, mx_nth, Option.some.injEq] at h
        subst h
        exact List.mem_cons_self
      | k + 1, h =>
        simp only [List.cons_append, List.nil_append, mx_nth] at h
        have := mx_ent_args (ad := ad) args (i + 1) k v h
        rw [show i + 1 + k = i + (k + 1) by omega] at this
        exact List.mem_cons_of_mem _ this
theorem mx_ent_len (ad : Nat → Nat) (args : List Value) : (lg_sl (args.map (mx_av ad))).length = (args.flatMap fun v => if v.category = 2 then [some v, none] else [some v]).length := by
  induction args with
  | nil => rfl
  | cons w args ih =>
    rw [List.map_cons]
    unfold lg_sl at ih ⊢
    rw [List.flatMap_cons, List.flatMap_cons, List.length_append, List.length_append, ih, mx_av_cat]
    by_cases hc : w.category = 2
    · rw [if_pos hc, if_pos hc]; rfl
    · rw [if_neg hc, if_neg hc]; rfl
theorem mx_nth_app {α : Type} : ∀ (a b : List α) (k : Nat), mx_nth (a ++ b) k = if k < a.length then mx_nth a k else mx_nth b (k - a.length) := by
  intro a b k
  rw [mx_nth_eq, mx_nth_eq, mx_nth_eq]
  by_cases h : k < a.length
  · rw [if_pos h, List.getElem?_append_left h]
  · rw [if_neg h, List.getElem?_append_right (by omega)]
theorem mx_has_ent {ad : Nat → Nat} {maxL : Nat} {args : List Value} (h : (args.flatMap fun v => if v.category = 2 then [some v, none] else [some v]).length ≤ maxL) : mx_has ad ((lg_sl (args.map (mx_av ad)) ++ List.replicate (maxL - (lg_sl (args.map (mx_av ad))).length) Slot.unset).toArray) maxL (mx_ent maxL args) := by
  have hl := lv_entry (args.map (mx_av ad)) (n := maxL) (by rw [mx_ent_len]; exact h)
  refine ⟨⟨hl.1, hl.2.1, fun q hq => ?_⟩, ?_⟩
  · obtain ⟨k, w, h1, rfl⟩ := mx_as_mem _ _ _ hq
    rw [Nat.zero_add]
    unfold mx_ent at h1
    rw [mx_nth_app] at h1
    split at h1
    · have := mx_ent_args (ad := ad) args 0 k w h1
      rw [Nat.zero_add] at this
      exact hl.2.2 _ this
    · rw [mx_nth_eq, List.getElem?_replicate] at h1
      split at h1 <;> simp at h1
  · unfold mx_ent
    rw [List.length_append, List.length_replicate]
    omega
