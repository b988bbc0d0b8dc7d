/-! ===== printed pictures of methods: their words, and the rows that tie them to frames ===== -/
def rk {α : Type} (n : Nat) (e : Int32) (k : Option α) : Option α := if e < 0 ∨ n ≤ e.toNatClampNeg then none else k
def zk {α : Type} (x : Int32) (k : Option α) : Option α := if x = 0 ∨ x = 1 then k else none
def dk {α : Type} (x : Int32) (k : Option α) : Option α := if x = 0 then none else k
def ak {α : Type} (sp dp n : Int32) (n0 n1 : Nat) (k : Option α) : Option α := if sp < 0 ∨ dp < 0 ∨ n < 0 ∨ n0 < sp.toNatClampNeg + n.toNatClampNeg ∨ n1 < dp.toNatClampNeg + n.toNatClampNeg then none else k
def sD (D : mx_D) (a j : Nat) (x : Int32) : mx_D := va_up D a (upd (D a) j x)
def sE (E : mx_E) (a j : Nat) (x : Int64) : mx_E := va_up E a (vp_updL (E a) j x)
def cD (D : mx_D) (a b sp dp n : Nat) : mx_D := va_up D b (va_cpy (D a) (D b) sp dp n)
def cE (E : mx_E) (a b sp dp n : Nat) : mx_E := va_up E b (va_cpy (E a) (E b) sp dp n)
def imn (x y : Int32) : Int32 := if y < x then y else x
def imx (x y : Int32) : Int32 := if x < y then y else x
def it {α : Type} (b : α → α) (z : α) : Nat → α := fun n => Nat.rec z (fun _ x => b x) n
def kq_wt (j : Nat) : Int32 := [6561, 729, 81, 9, 1].getD j 0
def st_len (w : Nat) : Option Int32 := match kq_sp 335 [.ref w] with
  | some (.int n) => some n
  | _ => none
def st_at (w : Nat) (e : Int32) : Option Int32 := match kq_sp 336 [.ref w, .int e] with
  | some (.int n) => some n
  | _ => none
theorem st_len_sp {w : Nat} {n : Int32} (h : st_len w = some n) : kq_sp 335 [.ref w] = some (.int n) := by
  unfold st_len at h
  split at h
  · rename_i m hm
    cases h
    exact hm
  · cases h
theorem st_at_sp {w : Nat} {e n : Int32} (h : st_at w e = some n) : kq_sp 336 [.ref w, .int e] = some (.int n) := by
  unfold st_at at h
  split at h
  · rename_i m hm
    cases h
    exact hm
  · cases h
def qR (r : Option Value) (D : mx_D) (E : mx_E) : ev_P := fun r' D' E' => r' = r ∧ D' = D ∧ E' = E
/-! locals of which fewer are known -/
def mx_le : mx_L → mx_L → Prop
  | [], [] => True
  | none :: l, _ :: l' => mx_le l l'
  | some v :: l, w :: l' => w = some v ∧ mx_le l l'
  | [], _ :: _ => False
  | _ :: _, [] => False
theorem mx_le_nth : ∀ {L L' : mx_L}, mx_le L L' → ∀ (k : Nat) (v : Value), mx_nth L k = some (some v) → mx_nth L' k = some (some v)
  | [], [], _, k, v, h => by simp [mx_nth] at h
  | none :: l, w :: l', hl, 0, v, h => by simp [mx_nth] at h
  | none :: l, w :: l', hl, k + 1, v, h => by
    simp only [mx_nth] at h ⊢
    simp only [mx_le] at hl
    exact mx_le_nth hl k v h
  | some u :: l, w :: l', hl, 0, v, h => by
    simp only [mx_nth, Option.some.injEq] at h ⊢
    simp only [mx_le] at hl
    rw [hl.1, h]
  | some u :: l, w :: l', hl, k + 1, v, h => by
    simp only [mx_nth] at h ⊢
    simp only [mx_le] at hl
    exact mx_le_nth hl.2 k v h
  | [], _ :: _, hl, _, _, _ => hl.elim
  | none :: _, [], hl, _, _, _ => hl.elim
  | some _ :: _, [], hl, _, _, _ => hl.elim
theorem mx_le_len : ∀ {L L' : mx_L}, mx_le L L' → L.length = L'.length
  | [], [], _ => rfl
  | none :: l, w :: l', hl => by
    simp only [mx_le] at hl
    simp only [List.length_cons, mx_le_len hl]
  | some u :: l, w :: l', hl => by
    simp only [mx_le] at hl
    simp only [List.length_cons, mx_le_len hl.2]
  | [], _ :: _, hl => hl.elim
  | none :: _, [], hl => hl.elim
  | some _ :: _, [], hl => hl.elim
theorem mx_le_put : ∀ {L L' : mx_L}, mx_le L L' → ∀ (k : Nat) (v : Option Value), mx_le (mx_put L k v) (mx_put L' k v)
  | [], [], _, k, v => by simp only [mx_put, mx_le]
  | none :: l, w :: l', hl, 0, v => by
    simp only [mx_le] at hl
    cases v
    · simp only [mx_put, mx_le]
      exact hl
    · simp only [mx_put, mx_le]
      exact ⟨trivial, hl⟩
  | none :: l, w :: l', hl, k + 1, v => by
    simp only [mx_le] at hl
    simp only [mx_put, mx_le]
    exact mx_le_put hl k v
  | some u :: l, w :: l', hl, 0, v => by
    simp only [mx_le] at hl
    cases v
    · simp only [mx_put, mx_le]
      exact hl.2
    · simp only [mx_put, mx_le]
      exact ⟨trivial, hl.2⟩
  | some u :: l, w :: l', hl, k + 1, v => by
    simp only [mx_le] at hl
    simp only [mx_put, mx_le]
    exact ⟨hl.1, mx_le_put hl.2 k v⟩
  | [], _ :: _, hl, _, _ => hl.elim
  | none :: _, [], hl, _, _ => hl.elim
  | some _ :: _, [], hl, _, _ => hl.elim
theorem mx_le_putR : ∀ {L L' : mx_L}, mx_le L L' → ∀ (k : Nat) (v : Option Value), (∀ u, mx_nth L k ≠ some (some u)) → mx_le L (mx_put L' k v)
  | [], [], _, k, v, _ => by simp only [mx_put, mx_le]
  | none :: l, w :: l', hl, 0, v, _ => by
    simp only [mx_le] at hl
    simp only [mx_put, mx_le]
    exact hl
  | none :: l, w :: l', hl, k + 1, v, h => by
    simp only [mx_le] at hl
    simp only [mx_put, mx_le]
    exact mx_le_putR hl k v h
  | some u :: l, w :: l', hl, 0, v, h => absurd rfl (h u)
  | some u :: l, w :: l', hl, k + 1, v, h => by
    simp only [mx_le] at hl
    simp only [mx_put, mx_le]
    exact ⟨hl.1, mx_le_putR hl.2 k v h⟩
  | [], _ :: _, hl, _, _, _ => hl.elim
  | none :: _, [], hl, _, _, _ => hl.elim
  | some _ :: _, [], hl, _, _, _ => hl.elim
theorem mx_le_low {L L' : mx_L} (hl : mx_le L L') (k : Nat) : mx_le (mx_low L k) (mx_low L' k) := by
  cases k with
  | zero => exact hl
  | succ k =>
    cases hk : mx_nth L k with
    | none =>
      have hn : ∀ u, mx_nth L k ≠ some (some u) := fun u e => by rw [hk] at e; cases e
      have e1 : mx_low L (k + 1) = L := by simp only [mx_low, hk]
      rw [e1]
      simp only [mx_low]
      split
      · exact mx_le_putR hl k none hn
      · exact mx_le_putR hl k none hn
      · exact hl
    | some o =>
      cases o with
      | none =>
        have hn : ∀ u, mx_nth L k ≠ some (some u) := fun u e => by rw [hk] at e; cases e
        have e1 : mx_low L (k + 1) = L := by simp only [mx_low, hk]
        rw [e1]
        simp only [mx_low]
        split
        · exact mx_le_putR hl k none hn
        · exact mx_le_putR hl k none hn
        · exact hl
      | some v =>
        have hk' := mx_le_nth hl k v hk
        simp only [mx_low, hk, hk']
        cases v with
        | long x => exact mx_le_put hl k none
        | double x => exact mx_le_put hl k none
        | _ => exact hl
theorem mx_le_st1 {L L' : mx_L} (hl : mx_le L L') (k : Nat) (v : Value) : mx_le (mx_st1 L k v) (mx_st1 L' k v) := mx_le_put (mx_le_low hl k) k (some v)
theorem mx_le_st2 {L L' : mx_L} (hl : mx_le L L') (k : Nat) (v : Value) : mx_le (mx_st2 L k v) (mx_st2 L' k v) := mx_le_put (mx_le_put (mx_le_low hl k) k (some v)) (k + 1) none
def mx_lfree : Instr → Bool
  | .iload_n _ | .iload _ | .lload_n _ | .lload _ | .aload_n _ | .aload _ | .istore_n _ | .istore _ | .lstore_n _ | .lstore _ | .astore_n _ | .astore _ | .iinc _ _ => false
  | _ => true
section GL
variable {cd : Nat → Nat → Option Instr} {mt : Nat → Option (MethodName × ByteArray × Nat × Option FieldType)} {cz : Nat → Nat} {sp : Nat → List Value → Option Value}
variable {fl : Nat → Nat → Option (Nat × Nat × Nat × Bool)} {ko : Nat → Nat → Option Value} {gs : Nat → Nat → Option Nat} {ck : Nat → Nat → Option (Nat × Nat × Nat)} {lay : Nat → Option mx_Sh} {ext : Nat → Option (Nat × (Nat → Int32))}
theorem mx_go_free {t : Int} {L L' : mx_L} {st : List Value} {D : mx_D} {E : mx_E} : (mx_go t fun t => some (t, L', st, D, E)) = (mx_go t fun t => some (t, L, st, D, E)).map (fun S => (S.1, L', S.2.2)) := by
  cases t <;> rfl
theorem mx_go_if {t : Int} {c : Prop} {dc : Decidable c} {p : Nat} {L L' : mx_L} {st : List Value} {D : mx_D} {E : mx_E} : (mx_go t fun t => if c then some (t, L', st, D, E) else some (p, L', st, D, E)) = (mx_go t fun t => if c then some (t, L, st, D, E) else some (p, L, st, D, E)).map (fun S => (S.1, L', S.2.2)) := by
  cases t
  · simp only [mx_go]
    split <;> rfl
  · rfl
theorem mx_go_if2 {t : Int} {c : Prop} {dc : Decidable c} {p : Nat} {L L' : mx_L} {st : List Value} {D : mx_D} {E : mx_E} : (mx_go t fun t => if c then some (p, L', st, D, E) else some (t, L', st, D, E)) = (mx_go t fun t => if c then some (p, L, st, D, E) else some (t, L, st, D, E)).map (fun S => (S.1, L', S.2.2)) := by
  cases t
  · simp only [mx_go]
    split <;> rfl
  · rfl
theorem mx_ins_free {d y pc : Nat} {i : Instr} (hi : mx_lfree i = true) (L L' : mx_L) (st : List Value) (D : mx_D) (E : mx_E) : mx_ins fl ko gs ck lay ext d y i (pc, L', st, D, E) = (mx_ins fl ko gs ck lay ext d y i (pc, L, st, D, E)).map (fun S => (S.1, L', S.2.2)) := by
  cases i
  case goto off => exact mx_go_free
  case ifCond c off =>
    simp only [mx_ins]
    split
    · cases c <;> first | exact mx_go_if | exact mx_go_if2
    · rfl
  case if_icmp c off =>
    simp only [mx_ins]
    split
    · cases c <;> first | exact mx_go_if | exact mx_go_if2
    · rfl
  case tableswitch a b c e =>
    simp only [mx_ins]
    split
    · split
      · exact mx_go_free
      · split
        · exact mx_go_free
        · rfl
    · rfl
  all_goals first
    | rfl
    | (cases hi; done)
    | (simp only [mx_ins]; repeat' (first | rfl | split))
theorem mx_ins_le {d y pc : Nat} {i : Instr} {L L' : mx_L} {st : List Value} {D : mx_D} {E : mx_E} {S1 : mx_S} (hl : mx_le L L') (h : mx_ins fl ko gs ck lay ext d y i (pc, L, st, D, E) = some S1) : ∃ L1, mx_ins fl ko gs ck lay ext d y i (pc, L', st, D, E) = some (S1.1, L1, S1.2.2) ∧ mx_le S1.2.1 L1 := by
  by_cases hi : mx_lfree i = true
  · refine ⟨L', ?_, ?_⟩
    · rw [mx_ins_free hi L L', h]
      rfl
    · have h2 := mx_ins_free (fl := fl) (ko := ko) (gs := gs) (ck := ck) (lay := lay) (ext := ext) (d := d) (y := y) (pc := pc) hi L L st D E
      rw [h] at h2
      have h3 := Option.some.inj h2
      have : S1.2.1 = L := by rw [h3]
      rw [this]
      exact hl
  · cases i
    case iload_n k =>
      simp only [mx_ins] at h
      split at h
      · rename_i x hk
        cases h
        exact ⟨L', by simp only [mx_ins, mx_le_nth hl _ _ hk], hl⟩
      · cases h
    case iload k =>
      simp only [mx_ins] at h
      split at h
      · rename_i x hk
        cases h
        exact ⟨L', by simp only [mx_ins, mx_le_nth hl _ _ hk], hl⟩
      · cases h
    case lload_n k =>
      simp only [mx_ins] at h
      split at h
      · rename_i x hk
        cases h
        exact ⟨L', by simp only [mx_ins, mx_le_nth hl _ _ hk], hl⟩
      · cases h
    case lload k =>
      simp only [mx_ins] at h
      split at h
      · rename_i x hk
        cases h
        exact ⟨L', by simp only [mx_ins, mx_le_nth hl _ _ hk], hl⟩
      · cases h
    case aload_n k =>
      simp only [mx_ins] at h
      split at h
      · rename_i x hk
        cases h
        exact ⟨L', by simp only [mx_ins, mx_le_nth hl _ _ hk], hl⟩
      · cases h
    case aload k =>
      simp only [mx_ins] at h
      split at h
      · rename_i x hk
        cases h
        exact ⟨L', by simp only [mx_ins, mx_le_nth hl _ _ hk], hl⟩
      · cases h
    case iinc k n =>
      simp only [mx_ins] at h
      split at h
      · rename_i x hk
        cases h
        exact ⟨mx_st1 L' k _, by simp only [mx_ins, mx_le_nth hl _ _ hk], mx_le_st1 hl _ _⟩
      · cases h
    case istore_n k =>
      simp only [mx_ins] at h
      split at h
      · split at h
        · rename_i hk
          cases h
          rw [mx_le_len hl] at hk
          exact ⟨mx_st1 L' k _, by simp only [mx_ins, if_pos hk], mx_le_st1 hl _ _⟩
        · cases h
      · cases h
    case istore k =>
      simp only [mx_ins] at h
      split at h
      · split at h
        · rename_i hk
          cases h
          rw [mx_le_len hl] at hk
          exact ⟨mx_st1 L' k _, by simp only [mx_ins, if_pos hk], mx_le_st1 hl _ _⟩
        · cases h
      · cases h
    case lstore_n k =>
      simp only [mx_ins] at h
      split at h
      · split at h
        · rename_i hk
          cases h
          rw [mx_le_len hl] at hk
          exact ⟨mx_st2 L' k _, by simp only [mx_ins, if_pos hk], mx_le_st2 hl _ _⟩
        · cases h
      · cases h
    case lstore k =>
      simp only [mx_ins] at h
      split at h
      · split at h
        · rename_i hk
          cases h
          rw [mx_le_len hl] at hk
          exact ⟨mx_st2 L' k _, by simp only [mx_ins, if_pos hk], mx_le_st2 hl _ _⟩
        · cases h
      · cases h
    case astore_n k =>
      simp only [mx_ins] at h
      split at h
      · split at h
        · rename_i hk
          cases h
          rw [mx_le_len hl] at hk
          exact ⟨mx_st1 L' k _, by simp only [mx_ins, if_pos hk], mx_le_st1 hl _ _⟩
        · cases h
      · cases h
    case astore k =>
      simp only [mx_ins] at h
      split at h
      · split at h
        · rename_i hk
          cases h
          rw [mx_le_len hl] at hk
          exact ⟨mx_st1 L' k _, by simp only [mx_ins, if_pos hk], mx_le_st1 hl _ _⟩
        · cases h
      · cases h
    all_goals exact absurd rfl hi
theorem mx_stp_le {run : Nat → Nat → mx_S → mx_R} {d y pc : Nat} {L L' : mx_L} {st : List Value} {D : mx_D} {E : mx_E} {S1 : mx_S} (hl : mx_le L L') (h : mx_stp cd mt cz sp fl ko gs ck lay ext run d y (pc, L, st, D, E) = some S1) : ∃ L1, mx_stp cd mt cz sp fl ko gs ck lay ext run d y (pc, L', st, D, E) = some (S1.1, L1, S1.2.2) ∧ mx_le S1.2.1 L1 := by
  unfold mx_stp at h ⊢
  dsimp only at h ⊢
  split at h
  case h_2 => cases h
  rename_i i hi
  split at h
  case h_2 => exact mx_ins_le hl h
  rename_i k z as rest hcal
  split at h
  case h_1 => cases h
  rename_i d'
  by_cases hk : k = 3
  · rw [if_pos hk] at h
    simp only [if_pos hk]
    split at h
    · rename_i v hv
      split at h
      · cases h
      · rename_i hd
        cases h
        exact ⟨L', by simp only [if_neg hd], hl⟩
    · cases h
  · rw [if_neg hk] at h
    simp only [if_neg hk]
    split at h
    case h_2 => cases h
    rename_i a1 a2 mL a3 hz
    split at h
    · cases h
    · rename_i hlen
      simp only [if_neg hlen]
      split at h
      case h_2 => cases h
      rename_i v D' E' hv
      cases h
      exact ⟨L', rfl, hl⟩
theorem mx_end_le {y pc : Nat} {L L' : mx_L} {st : List Value} {D : mx_D} {E : mx_E} : mx_end cd mt y (pc, L', st, D, E) = mx_end cd mt y (pc, L, st, D, E) := rfl
theorem mx_run_le : ∀ (f d y pc : Nat) (L L' : mx_L) (st : List Value) (D : mx_D) (E : mx_E) (r : Option Value × mx_D × mx_E), mx_le L L' → mx_run cd mt cz sp fl ko gs ck lay ext f d y (pc, L, st, D, E) = some r → mx_run cd mt cz sp fl ko gs ck lay ext f d y (pc, L', st, D, E) = some r := by
  intro f
  induction f with
  | zero => intro d y pc L L' st D E r hl h; cases h
  | succ f ih =>
    intro d y pc L L' st D E r hl h
    rw [mx_run_s] at h ⊢
    rw [mx_end_le (L := L) (L' := L')]
    cases he : mx_end cd mt y (pc, L, st, D, E) with
    | some q =>
      rw [he] at h
      exact h
    | none =>
      rw [he] at h
      simp only at h ⊢
      cases hs : mx_stp cd mt cz sp fl ko gs ck lay ext (mx_run cd mt cz sp fl ko gs ck lay ext f) d y (pc, L, st, D, E) with
      | none => rw [hs] at h; cases h
      | some S' =>
        rw [hs] at h
        obtain ⟨L1, h1, h2⟩ := mx_stp_le hl hs
        rw [h1]
        exact ih _ _ _ _ _ _ _ _ _ h2 h
end GL
section GV
variable {X : ev_X} {d y : Nat} {S : mx_S} {Φ : ev_P} {q : kq_Ty} {α : Type}
theorem gv_w {pc : Nat} {L L' : mx_L} {st : List Value} {D : mx_D} {E : mx_E} (h : ev X d y (pc, L, st, D, E) Φ) (hl : mx_le L L') : ev X d y (pc, L', st, D, E) Φ := by
  obtain ⟨f, r, D', E', h1, h2⟩ := h
  exact ⟨f, r, D', E', mx_run_le _ _ _ _ _ _ _ _ _ _ hl h1, h2⟩
theorem gv_n (hq : kq_m y = some q) (n : Nat) {S' : mx_S} (h : ev_sn X q.2.2.2.2.2 d y n S = some S') (k : ev X d y S' Φ) : ev X d y S Φ := ev_n hq n h k
theorem gv_b (hq : kq_m y = some q) {i : Instr} (hi : mx_look q.2.2.2.2.2 S.1 = some i) {c : Prop} {dc dc' : Decidable c} {A B v : α} (h : @ite α c dc A B = v) (t u : Nat) {a1 a2 : Nat} {M : mx_L × List Value × mx_D × mx_E} (hs : ev_i X d y i S = @ite _ c dc' (some (a1, M)) (some (a2, M))) (h1 : a1 = t) (h2 : a2 = u) (k1 : A = v → ev X d y (t, M) Φ) (k2 : B = v → ev X d y (u, M) Φ) : ev X d y S Φ := by
  subst h1; subst h2
  by_cases hc : c
  · rw [if_pos hc] at h
    exact ev_ins hq hi (by rw [hs, if_pos hc]) (k1 h)
  · rw [if_neg hc] at h
    exact ev_ins hq hi (by rw [hs, if_neg hc]) (k2 h)
theorem gv_if {c : Prop} {dc : Decidable c} {A B v : α} {P : Prop} (h : @ite α c dc A B = v) (k1 : c → A = v → P) (k2 : ¬ c → B = v → P) : P := by
  by_cases hc : c
  · rw [if_pos hc] at h
    exact k1 hc h
  · rw [if_neg hc] at h
    exact k2 hc h
theorem gv_rk {n : Nat} {e : Int32} {K : Option α} {v : α} (h : rk n e K = some v) : ¬ (e < 0 ∨ n ≤ e.toNatClampNeg) ∧ K = some v := by
  unfold rk at h
  split at h
  · cases h
  · rename_i hc
    exact ⟨hc, h⟩
theorem gv_zi {x : Int32} {K : Option α} {v : α} (h : zk x K = some v) : (x = 0 ∨ x = 1) ∧ K = some v := by
  unfold zk at h
  split at h
  · rename_i hc
    exact ⟨hc, h⟩
  · cases h
theorem gv_dki {x : Int32} {K : Option α} {v : α} (h : dk x K = some v) : ¬ x = 0 ∧ K = some v := by
  unfold dk at h
  split at h
  · cases h
  · rename_i hc
    exact ⟨hc, h⟩
theorem gv_ia (hq : kq_m y = some q) {pc : Nat} (hi : mx_look q.2.2.2.2.2 pc = some .iaload) {a n : Nat} (hx : kq_ext X.1 X.2 a = none) (hla : kq_lay a = some (.inl (0, n))) {e : Int32} {K : Option α} {v : α} (h : rk n e K = some v) (t : Nat) (ht : pc + 1 = t) {L : mx_L} {st : List Value} {D : mx_D} {E : mx_E} (k : K = some v → ev X d y (t, L, .int (D a e.toNatClampNeg) :: st, D, E) Φ) : ev X d y (pc, L, .int e :: .ref a :: st, D, E) Φ := by
  subst ht
  obtain ⟨h1, h2⟩ := gv_rk h
  refine ev_ins hq hi (S' := (pc + 1, L, .int (D a e.toNatClampNeg) :: st, D, E)) ?_ (k h2)
  simp only [ev_i, mx_ins, hx, hla]
  rw [if_neg h1]
theorem gv_ix (hq : kq_m y = some q) {pc : Nat} (hi : mx_look q.2.2.2.2.2 pc = some .iaload) {a n : Nat} {f : Nat → Int32} (hx : kq_ext X.1 X.2 a = some (n, f)) {e : Int32} {K : Option α} {v : α} (h : rk n e K = some v) (t : Nat) (ht : pc + 1 = t) {L : mx_L} {st : List Value} {D : mx_D} {E : mx_E} (k : K = some v → ev X d y (t, L, .int (f e.toNatClampNeg) :: st, D, E) Φ) : ev X d y (pc, L, .int e :: .ref a :: st, D, E) Φ := by
  subst ht
  obtain ⟨h1, h2⟩ := gv_rk h
  refine ev_ins hq hi (S' := (pc + 1, L, .int (f e.toNatClampNeg) :: st, D, E)) ?_ (k h2)
  simp only [ev_i, mx_ins, hx]
  rw [if_neg h1]
theorem gv_ba1 (hq : kq_m y = some q) {pc : Nat} (hi : mx_look q.2.2.2.2.2 pc = some .baload) {a n : Nat} (hla : kq_lay a = some (.inl (1, n))) {e : Int32} {K : Option α} {v : α} (h : rk n e K = some v) (t : Nat) (ht : pc + 1 = t) {L : mx_L} {st : List Value} {D : mx_D} {E : mx_E} (k : K = some v → ev X d y (t, L, .int (D a e.toNatClampNeg) :: st, D, E) Φ) : ev X d y (pc, L, .int e :: .ref a :: st, D, E) Φ := by
  subst ht
  obtain ⟨h1, h2⟩ := gv_rk h
  refine ev_ins hq hi (S' := (pc + 1, L, .int (D a e.toNatClampNeg) :: st, D, E)) ?_ (k h2)
  simp only [ev_i, mx_ins, hla]
  rw [if_neg h1]
theorem gv_ba2 (hq : kq_m y = some q) {pc : Nat} (hi : mx_look q.2.2.2.2.2 pc = some .baload) {a n : Nat} (hla : kq_lay a = some (.inl (2, n))) {e : Int32} {K : Option α} {v : α} (h : rk n e K = some v) (t : Nat) (ht : pc + 1 = t) {L : mx_L} {st : List Value} {D : mx_D} {E : mx_E} (k : K = some v → ev X d y (t, L, .int (D a e.toNatClampNeg) :: st, D, E) Φ) : ev X d y (pc, L, .int e :: .ref a :: st, D, E) Φ := by
  subst ht
  obtain ⟨h1, h2⟩ := gv_rk h
  refine ev_ins hq hi (S' := (pc + 1, L, .int (D a e.toNatClampNeg) :: st, D, E)) ?_ (k h2)
  simp only [ev_i, mx_ins, hla]
  rw [if_neg h1]
theorem gv_la (hq : kq_m y = some q) {pc : Nat} (hi : mx_look q.2.2.2.2.2 pc = some .laload) {a n : Nat} (hla : kq_lay a = some (.inl (3, n))) {e : Int32} {K : Option α} {v : α} (h : rk n e K = some v) (t : Nat) (ht : pc + 1 = t) {L : mx_L} {st : List Value} {D : mx_D} {E : mx_E} (k : K = some v → ev X d y (t, L, .long (E a e.toNatClampNeg) :: st, D, E) Φ) : ev X d y (pc, L, .int e :: .ref a :: st, D, E) Φ := by
  subst ht
  obtain ⟨h1, h2⟩ := gv_rk h
  refine ev_ins hq hi (S' := (pc + 1, L, .long (E a e.toNatClampNeg) :: st, D, E)) ?_ (k h2)
  simp only [ev_i, mx_ins, hla]
  rw [if_neg h1]
theorem gv_is (hq : kq_m y = some q) {pc : Nat} (hi : mx_look q.2.2.2.2.2 pc = some .iastore) {a n : Nat} (hla : kq_lay a = some (.inl (0, n))) {e x : Int32} {K : Option α} {v : α} (h : rk n e K = some v) (t : Nat) (ht : pc + 1 = t) {L : mx_L} {st : List Value} {D : mx_D} {E : mx_E} (k : K = some v → ev X d y (t, L, st, sD D a e.toNatClampNeg x, E) Φ) : ev X d y (pc, L, .int x :: .int e :: .ref a :: st, D, E) Φ := by
  subst ht
  obtain ⟨h1, h2⟩ := gv_rk h
  refine ev_ins hq hi (S' := (pc + 1, L, st, sD D a e.toNatClampNeg x, E)) ?_ (k h2)
  simp only [ev_i, mx_ins, hla]
  rw [if_neg h1]
  rfl
theorem gv_bs1 (hq : kq_m y = some q) {pc : Nat} (hi : mx_look q.2.2.2.2.2 pc = some .bastore) {a n : Nat} (hla : kq_lay a = some (.inl (1, n))) {e x : Int32} {K : Option α} {v : α} (h : rk n e K = some v) (t : Nat) (ht : pc + 1 = t) {L : mx_L} {st : List Value} {D : mx_D} {E : mx_E} (k : K = some v → ev X d y (t, L, st, sD D a e.toNatClampNeg (vp_nar .byte x), E) Φ) : ev X d y (pc, L, .int x :: .int e :: .ref a :: st, D, E) Φ := by
  subst ht
  obtain ⟨h1, h2⟩ := gv_rk h
  refine ev_ins hq hi (S' := (pc + 1, L, st, sD D a e.toNatClampNeg (vp_nar .byte x), E)) ?_ (k h2)
  simp only [ev_i, mx_ins, hla]
  rw [if_neg h1]
  rfl
theorem gv_bs2 (hq : kq_m y = some q) {pc : Nat} (hi : mx_look q.2.2.2.2.2 pc = some .bastore) {a n : Nat} (hla : kq_lay a = some (.inl (2, n))) {e x : Int32} {K : Option α} {v : α} (h : rk n e K = some v) (t : Nat) (ht : pc + 1 = t) {L : mx_L} {st : List Value} {D : mx_D} {E : mx_E} (k : K = some v → ev X d y (t, L, st, sD D a e.toNatClampNeg (vp_nar .boolean x), E) Φ) : ev X d y (pc, L, .int x :: .int e :: .ref a :: st, D, E) Φ := by
  subst ht
  obtain ⟨h1, h2⟩ := gv_rk h
  refine ev_ins hq hi (S' := (pc + 1, L, st, sD D a e.toNatClampNeg (vp_nar .boolean x), E)) ?_ (k h2)
  simp only [ev_i, mx_ins, hla]
  rw [if_neg h1]
  rfl
theorem gv_ls (hq : kq_m y = some q) {pc : Nat} (hi : mx_look q.2.2.2.2.2 pc = some .lastore) {a n : Nat} (hla : kq_lay a = some (.inl (3, n))) {e : Int32} {x : Int64} {K : Option α} {v : α} (h : rk n e K = some v) (t : Nat) (ht : pc + 1 = t) {L : mx_L} {st : List Value} {D : mx_D} {E : mx_E} (k : K = some v → ev X d y (t, L, st, D, sE E a e.toNatClampNeg x) Φ) : ev X d y (pc, L, .long x :: .int e :: .ref a :: st, D, E) Φ := by
  subst ht
  obtain ⟨h1, h2⟩ := gv_rk h
  refine ev_ins hq hi (S' := (pc + 1, L, st, D, sE E a e.toNatClampNeg x)) ?_ (k h2)
  simp only [ev_i, mx_ins, hla]
  rw [if_neg h1]
  rfl
theorem gv_idiv (hq : kq_m y = some q) {pc : Nat} (hi : mx_look q.2.2.2.2.2 pc = some .idiv) {z x : Int32} {K : Option α} {v : α} (h : dk z K = some v) (t : Nat) (ht : pc + 1 = t) {L : mx_L} {st : List Value} {D : mx_D} {E : mx_E} (k : K = some v → ev X d y (t, L, .int (x / z) :: st, D, E) Φ) : ev X d y (pc, L, .int z :: .int x :: st, D, E) Φ := by
  subst ht
  obtain ⟨h1, h2⟩ := gv_dki h
  refine ev_ins hq hi (S' := (pc + 1, L, .int (x / z) :: st, D, E)) ?_ (k h2)
  simp only [ev_i, mx_ins]
  rw [if_neg h1]
theorem gv_irem (hq : kq_m y = some q) {pc : Nat} (hi : mx_look q.2.2.2.2.2 pc = some .irem) {z x : Int32} {K : Option α} {v : α} (h : dk z K = some v) (t : Nat) (ht : pc + 1 = t) {L : mx_L} {st : List Value} {D : mx_D} {E : mx_E} (k : K = some v → ev X d y (t, L, .int (x - x / z * z) :: st, D, E) Φ) : ev X d y (pc, L, .int z :: .int x :: st, D, E) Φ := by
  subst ht
  obtain ⟨h1, h2⟩ := gv_dki h
  refine ev_ins hq hi (S' := (pc + 1, L, .int (x - x / z * z) :: st, D, E)) ?_ (k h2)
  simp only [ev_i, mx_ins]
  rw [if_neg h1]
theorem gv_zp (hq : kq_m y = some q) {i : Instr} (hi : mx_look q.2.2.2.2.2 S.1 = some i) {x : Int32} {K : Option α} {v : α} (h : zk x K = some v) {S' : mx_S} {dc : Decidable ((1 : Nat) = 0 ∨ (1 : Nat) = 1 ∧ (x = 0 ∨ x = 1))} (hs : ev_i X d y i S = @ite _ ((1 : Nat) = 0 ∨ (1 : Nat) = 1 ∧ (x = 0 ∨ x = 1)) dc (some S') none) (k : K = some v → ev X d y S' Φ) : ev X d y S Φ := by
  obtain ⟨h1, h2⟩ := gv_zi h
  exact ev_ins hq hi (by rw [hs, if_pos (Or.inr ⟨rfl, h1⟩)]) (k h2)
theorem gv_cp (hq : kq_m y = some q) {i : Instr} (hi : mx_look q.2.2.2.2.2 S.1 = some i) {sp dp n : Int32} {n0 n1 m : Nat} {K : Option α} {v : α} (h : ak sp dp n n0 n1 K = some v) {S' : mx_S} {dc : Decidable (sp < 0 ∨ dp < 0 ∨ n < 0 ∨ n0 < sp.toNatClampNeg + n.toNatClampNeg ∨ n1 < dp.toNatClampNeg + n.toNatClampNeg ∨ 8 < m)} (hs : ev_i X d y i S = @ite _ (sp < 0 ∨ dp < 0 ∨ n < 0 ∨ n0 < sp.toNatClampNeg + n.toNatClampNeg ∨ n1 < dp.toNatClampNeg + n.toNatClampNeg ∨ 8 < m) dc none (some S')) (hm : Nat.ble m 8 = true) (k : K = some v → ev X d y S' Φ) : ev X d y S Φ := by
  unfold ak at h
  split at h
  · cases h
  · rename_i hc
    have h8 : ¬ 8 < m := Nat.not_lt.mpr (Nat.le_of_ble_eq_true hm)
    refine ev_ins hq hi ?_ (k h)
    rw [hs, if_neg]
    rintro (q | q | q | q | q | q)
    · exact hc (Or.inl q)
    · exact hc (Or.inr (Or.inl q))
    · exact hc (Or.inr (Or.inr (Or.inl q)))
    · exact hc (Or.inr (Or.inr (Or.inr (Or.inl q))))
    · exact hc (Or.inr (Or.inr (Or.inr (Or.inr q))))
    · exact h8 q
theorem gv_d (hq : kq_m y = some q) {i : Instr} (hi : mx_look q.2.2.2.2.2 S.1 = some i) {k z : Nat} {as rest : List Value} (hc : mx_cal kq_cz kq_ck kq_lay y i S.2.2.1 = some (k, z, as, rest)) (hk : Nat.beq k 3 = false) {qz : kq_Ty} (hz : kq_m z = some qz) (hl : Nat.ble (mx_len1 as) qz.2.2.1 = true) {r : Option Value} {D' : mx_D} {E' : mx_E}
    (hcal : ev X d z (0, mx_ent qz.2.2.1 as, [], S.2.2.2.1, S.2.2.2.2) (qR r D' E')) {S' : mx_S} (hS : (S.1 + 3, S.2.1, r.toList ++ rest, D', E') = S') (kk : ev X (d + 1) y S' Φ) : ev X (d + 1) y S Φ := by
  subst hS
  refine ev_call hq hi hc (fun e => ?_) hz (Nat.le_of_ble_eq_true hl) rfl hcal (fun r1 D1 E1 h1 => ?_)
  · subst e
    cases hk
  · obtain ⟨rfl, rfl, rfl⟩ := h1
    exact kk
theorem gv_s (hq : kq_m y = some q) {i : Instr} (hi : mx_look q.2.2.2.2.2 S.1 = some i) {z : Nat} {as rest : List Value} (hc : mx_cal kq_cz kq_ck kq_lay y i S.2.2.1 = some (3, z, as, rest)) {v : Value} (hv : kq_sp z as = some v) (h8 : 8 ≤ d) {S' : mx_S} (hS : (S.1 + 3, S.2.1, v :: rest, S.2.2.2.1, S.2.2.2.2) = S') (kk : ev X (d + 1) y S' Φ) : ev X (d + 1) y S Φ := by
  subst hS
  exact ev_out hq hi hc hv rfl h8 kk
theorem gv_dd {z : Nat} (hd : 0 < d) (h : ev X (d - 1 + 1) z S Φ) : ev X d z S Φ := by
  obtain ⟨e, rfl⟩ : ∃ e, d = e + 1 := ⟨d - 1, by omega⟩
  exact h
theorem gv_sw (f : Int32 → mx_S) {i : Instr} {x k : Int32} {S' : mx_S} (hx : x = k) (h : ev_i X d y i (f k) = some S') : ev_i X d y i (f x) = some S' := hx ▸ h
def sw_no (x : Int32) : Nat → Prop
  | 0 => True
  | n + 1 => sw_no x n ∧ ¬ x = nI n
theorem sw_no_at {x : Int32} : ∀ (n : Nat), sw_no x n → ∀ j, j < n → ¬ x = nI j
  | 0, _, j, hj => absurd hj (Nat.not_lt_zero j)
  | n + 1, h, j, hj => by
    rcases Nat.lt_or_ge j n with h1 | h1
    · exact sw_no_at n h.1 j h1
    · obtain rfl : j = n := by omega
      exact h.2
theorem gv_swd (f : Int32 → mx_S) {i : Instr} {x : Int32} {n : Nat} (hno : sw_no x n) {m : Nat} {dc : Decidable (x.toInt < (0 : Int) ∨ (m : Int) < x.toInt)} {A B : Option mx_S} {S' : mx_S} (hs : ev_i X d y i (f x) = @ite _ (x.toInt < (0 : Int) ∨ (m : Int) < x.toInt) dc A B) (hA : A = some S') (hm : n = m + 1) : ev_i X d y i (f x) = some S' := by
  rw [hs, if_pos, hA]
  by_cases h0 : x.toInt < 0
  · exact Or.inl h0
  · right
    rcases Int.lt_or_le (m : Int) x.toInt with h1 | h1
    · exact h1
    · exfalso
      have hx : ¬ x < 0 := by
        rw [Int32.lt_iff_toInt_lt]
        exact h0
      obtain ⟨j, hj, rfl⟩ := nI_of hx
      rw [nI_toInt hj] at h1
      exact sw_no_at n hno j (by omega) rfl
end GV
