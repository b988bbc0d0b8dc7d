/-! ===== what the constructors leave is the small machine's first store ===== -/
def kq_D0 : mx_D := fun k j => match mx_nth al_G2 k with
  | some (.inl (_, _, l)) => al_fn l j
  | some (.inr (.inr (_, vs))) => match mx_nth vs j with
    | some (.int x) => x
    | _ => 0
  | _ => 0
def kq_E0 : mx_E := fun _ _ => 0
def al_pair : Nat → Value → Bool
  | 0, .int _ => true
  | 1, .long x => decide (x = 0)
  | r + 2, .ref b => Nat.beq r b
  | _, _ => false
def al_pairs : List Nat → List Value → Bool
  | [], [] => true
  | c :: l, v :: m => al_pair c v && al_pairs l m
  | _, _ => false
theorem al_pairs_fv {ad : Nat → Nat} {D : mx_D} {k : Nat} : ∀ (fs : List Nat) (vs : List Value) (j : Nat), al_pairs fs vs = true → (∀ i x, mx_nth vs i = some (.int x) → D k (j + i) = x) → mx_fv ad D kq_E0 k j fs = vs.map (mx_av ad)
  | [], [], j, _, _ => rfl
  | c :: fs, v :: vs, j, h, hD => by
    simp only [al_pairs, Bool.and_eq_true] at h
    simp only [mx_fv, List.map_cons]
    rw [al_pairs_fv fs vs (j + 1) h.2 (fun i x hi => by rw [show j + 1 + i = j + (i + 1) by omega]; exact hD (i + 1) x hi)]
    have e : mx_f1 ad D kq_E0 k j c = mx_av ad v := by
      have h1 := h.1
      match c, v, h1 with
      | 0, .int x, _ =>
        have := hD 0 x rfl
        simp only [Nat.add_zero] at this
        simp only [mx_f1, mx_av, this]
      | 1, .long x, h1 =>
        have : x = 0 := of_decide_eq_true h1
        simp only [mx_f1, mx_av, kq_E0, this]
      | r + 2, .ref b, h1 =>
        have : r = b := Nat.eq_of_beq_eq_true h1
        simp only [mx_f1, mx_av, this]
    rw [e]
  | [], v :: vs, j, h, _ => by cases h
  | c :: fs, [], j, h, _ => by cases h
def al_shOk (sh : Option mx_Sh) (e : Option al_E) : Bool := match sh, e with
  | some (.inl (t, n)), some (.inl (t', n', l)) => Nat.beq t t' && Nat.beq n n'
  | some (.inr (.inl (t, rs))), some (.inr (.inl (t', rs'))) => Nat.beq t t' && decide (rs' = rs.map some)
  | some (.inr (.inr (ci, fs))), some (.inr (.inr (ci', vs))) => Nat.beq ci ci' && al_pairs fs vs
  | _, _ => false
theorem al_sh_all : (List.range 141).all (fun k => al_shOk (kq_lay k) (mx_nth al_G2 k)) = true := by decide +kernel
theorem al_nth_some (rs : List Nat) (j : Nat) : (rs.map some).getD j none = mx_nth rs j := by
  rw [List.getD_eq_getElem?_getD, List.getElem?_map, mx_nth_eq]
  cases rs[j]? <;> rfl
theorem al_ce_mx {ad : Nat → Nat} {cid : Nat → ClassId} {k : Nat} (hk : k < 141) {e : al_E} (he : al_G2[k]? = some e) : mx_ce ad cid kq_lay kq_D0 kq_E0 k = al_ce ad cid e := by
  have h := List.all_eq_true.mp al_sh_all k (List.mem_range.mpr hk)
  rw [← mx_nth_eq] at he
  simp only [he] at h
  unfold al_shOk at h
  split at h
  · rename_i t n t' n' l hla hx
    cases hx
    simp only [Bool.and_eq_true] at h
    have e1 := Nat.eq_of_beq_eq_true h.1
    have e2 := Nat.eq_of_beq_eq_true h.2
    subst e1; subst e2
    simp only [mx_ce, hla, al_ce]
    have eD : kq_D0 k = al_fn l := by
      funext j
      simp only [kq_D0, he]
    have eE : kq_E0 k = (fun _ => 0) := rfl
    rw [eD, eE]
  · rename_i t rs t' rs' hla hx
    cases hx
    simp only [Bool.and_eq_true] at h
    have e1 := Nat.eq_of_beq_eq_true h.1
    have e2 := of_decide_eq_true h.2
    subst e1; subst e2
    simp only [mx_ce, hla, al_ce, List.length_map]
    have ef : (fun j => (mx_nth rs j).map ad) = (fun j => ((rs.map some).getD j none).map ad) := by
      funext j
      rw [al_nth_some]
    rw [ef]
  · rename_i ci fs ci' vs hla hx
    cases hx
    simp only [Bool.and_eq_true] at h
    have e1 := Nat.eq_of_beq_eq_true h.1
    subst e1
    simp only [mx_ce, hla, al_ce]
    rw [al_pairs_fv fs vs 0 h.2 (fun i x hi => by simp only [kq_D0, he, Nat.zero_add, hi])]
  · cases h
theorem al_G2_len : al_G2.length = 141 := by decide +kernel
/-- the world at the law's loop: the addresses as come, any others beyond -/
theorem al_wl_mx {ad : Nat → Nat} {cid : Nat → ClassId} {as : List Nat} (hl : as.length = 141) (ha : ∀ k, k < 141 → ad k = as.getD k 0) (hG : al_G2.all (al_oke 141) = true) : al_wl (al_ad as) cid as al_G2 = mx_wl ad cid kq_lay 141 kq_D0 kq_E0 := by
  have hll : as.length = al_G2.length := hl.trans al_G2_len.symm
  rw [← al_wl_congr (ad := al_ad as) (ad' := ad) (fun k hk => ha k hk) hG]
  apply List.ext_getElem?
  intro k
  by_cases hk : k < 141
  · have he : al_G2[k]? = some (al_G2[k]'(by rw [al_G2_len]; exact hk)) := List.getElem?_eq_getElem _
    rw [al_wl_get hll he, mx_wl_get hk, al_ce_mx hk he, ha k hk]
  · rw [List.getElem?_eq_none (by unfold al_wl; simp [hl, al_G2_len]; omega), List.getElem?_eq_none (by unfold mx_wl; simp; omega)]
theorem al_G2_ok : al_G2.all (al_oke 141) = true := by decide +kernel
