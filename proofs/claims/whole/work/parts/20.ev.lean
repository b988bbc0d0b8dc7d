/-! ===== goal first over the small machine: what a frame comes to ===== -/
section EG
variable {cd : Nat → Nat → Option Instr} {mt : Nat → Option (MethodName × ByteArray × Nat × Option FieldType)} {cz : Nat → Nat} {sp : Nat → List Value → Option Value}
variable {fl : Nat → Nat → Option (Nat × Nat × Nat × Bool)} {ko : Nat → Nat → Option Value} {gs : Nat → Nat → Option Nat} {ck : Nat → Nat → Option (Nat × Nat × Nat)} {lay : Nat → Option mx_Sh} {ext : Nat → Option (Nat × (Nat → Int32))}
theorem mx_stp_mono {run run' : Nat → Nat → mx_S → mx_R} (hr : ∀ d z S r, run d z S = some r → run' d z S = some r) {d y : Nat} {S S' : mx_S} (h : mx_stp cd mt cz sp fl ko gs ck lay ext run d y S = some S') : mx_stp cd mt cz sp fl ko gs ck lay ext run' d y S = some S' := by
  unfold mx_stp at h ⊢
  split at h
  case h_2 => cases h
  rename_i i hi
  split at h
  case h_2 => exact h
  rename_i k z as rest hcal
  split at h
  case h_1 => cases h
  rename_i d'
  by_cases hk : k = 3
  · rw [if_pos hk] at h ⊢
    exact h
  · rw [if_neg hk] at h ⊢
    split at h
    case h_2 => cases h
    rename_i a1 a2 mL a3 hz
    by_cases hl : mL < mx_len1 as
    · rw [if_pos hl] at h
      cases h
    · rw [if_neg hl] at h ⊢
      split at h
      case h_2 => cases h
      rename_i v D' E' hv
      rw [hr _ _ _ _ hv]
      exact h
theorem mx_run_s (f d y : Nat) (S : mx_S) : mx_run cd mt cz sp fl ko gs ck lay ext (f + 1) d y S = (match mx_end cd mt y S with
    | some r => some r
    | none => match mx_stp cd mt cz sp fl ko gs ck lay ext (mx_run cd mt cz sp fl ko gs ck lay ext f) d y S with
      | some S' => mx_run cd mt cz sp fl ko gs ck lay ext f d y S'
      | none => none) := rfl
theorem mx_mono1 : ∀ (f d y : Nat) (S : mx_S) (r : Option Value × mx_D × mx_E), mx_run cd mt cz sp fl ko gs ck lay ext f d y S = some r → mx_run cd mt cz sp fl ko gs ck lay ext (f + 1) d y S = some r := by
  intro f
  induction f with
  | zero => intro d y S r h; cases h
  | succ f ih =>
    intro d y S r h
    rw [mx_run_s] at h ⊢
    cases he : mx_end cd mt y S with
    | some q =>
      rw [he] at h
      exact h
    | none =>
      rw [he] at h
      simp only at h ⊢
      cases hs : mx_stp cd mt cz sp fl ko gs ck lay ext (mx_run cd mt cz sp fl ko gs ck lay ext f) d y S with
      | none => rw [hs] at h; cases h
      | some S' =>
        rw [hs] at h
        rw [mx_stp_mono ih hs]
        exact ih _ _ _ _ h
theorem mx_mono {f g d y : Nat} {S : mx_S} {r : Option Value × mx_D × mx_E} (hfg : f ≤ g) (h : mx_run cd mt cz sp fl ko gs ck lay ext f d y S = some r) : mx_run cd mt cz sp fl ko gs ck lay ext g d y S = some r := by
  induction g with
  | zero => obtain rfl : f = 0 := by omega
            exact h
  | succ g ih =>
    rcases Nat.lt_or_ge f (g + 1) with h1 | h1
    · exact mx_mono1 g d y S r (ih (by omega))
    · obtain rfl : f = g + 1 := by omega
      exact h
theorem mx_ins_nofin {d y : Nat} {i : Instr} {S S' : mx_S} (h : mx_ins fl ko gs ck lay ext d y i S = some S') (ret : Option FieldType) : mx_fin ret i S = none ∧ mx_cal cz ck lay y i S.2.2.1 = none := by
  obtain ⟨pc, L, st, D, E⟩ := S
  cases i with
  | ireturn => cases h
  | lreturn => cases h
  | return_ => cases h
  | invokevirtual idx => cases h
  | invokestatic idx =>
    refine ⟨rfl, ?_⟩
    simp only [mx_ins] at h
    split at h
    · rename_i hck
      simp only [mx_cal, hck]
    · rename_i hck
      simp only [mx_cal, hck]
    · rename_i hck
      simp only [mx_cal, hck]
    · cases h
  | _ => exact ⟨rfl, rfl⟩
end EG
/-! now with this claim's tables; X: the script -/
abbrev ev_X : Type := Nat × (Nat → Int32)
abbrev ev_P : Type := Option Value → mx_D → mx_E → Prop
def ev (X : ev_X) (d y : Nat) (S : mx_S) (Φ : ev_P) : Prop := ∃ f r D' E', kq_run X.1 X.2 f d y S = some (r, D', E') ∧ Φ r D' E'
abbrev ev_i (X : ev_X) (d y : Nat) (i : Instr) (S : mx_S) : Option mx_S := mx_ins kq_fl kq_ko kq_gs kq_ck kq_lay (kq_ext X.1 X.2) d y i S
/-- so many instructions of one method, none of them a call -/
def ev_sn (X : ev_X) (c : List (Nat × Instr)) (d y : Nat) : Nat → mx_S → Option mx_S
  | 0, S => some S
  | n + 1, S => match mx_look c S.1 with
    | some i => match ev_i X d y i S with
      | some S' => ev_sn X c d y n S'
      | none => none
    | none => none
section EW
variable {X : ev_X} {d y : Nat} {S S' : mx_S} {Φ Ψ : ev_P} {q : kq_Ty}
theorem ev_mono (h : ev X d y S Φ) (hm : ∀ r D E, Φ r D E → Ψ r D E) : ev X d y S Ψ := by
  obtain ⟨f, r, D', E', h1, h2⟩ := h
  exact ⟨f, r, D', E', h1, hm _ _ _ h2⟩
theorem ev_ret {r : Option Value} {D : mx_D} {E : mx_E} (hq : kq_m y = some q) {i : Instr} (hi : mx_look q.2.2.2.2.2 S.1 = some i) (hf : mx_fin q.2.2.2.1 i S = some (r, D, E)) (hp : Φ r D E) : ev X d y S Φ := by
  refine ⟨1, r, D, E, ?_, hp⟩
  simp only [kq_run, mx_run, mx_end, kq_mt, kq_cd, hq, Option.map_some, hi, hf]
theorem ev_ins (hq : kq_m y = some q) {i : Instr} (hi : mx_look q.2.2.2.2.2 S.1 = some i) (hs : ev_i X d y i S = some S') (k : ev X d y S' Φ) : ev X d y S Φ := by
  obtain ⟨f, r, D', E', h1, h2⟩ := k
  refine ⟨f + 1, r, D', E', ?_, h2⟩
  obtain ⟨n1, n2⟩ := mx_ins_nofin (cz := kq_cz) hs q.2.2.2.1
  simp only [kq_run] at h1
  simp only [kq_run, mx_run, mx_end, mx_stp, kq_mt, kq_cd, hq, Option.map_some, hi, n1, n2, hs]
  exact h1
theorem ev_n (hq : kq_m y = some q) : ∀ (n : Nat) {S : mx_S}, ev_sn X q.2.2.2.2.2 d y n S = some S' → ev X d y S' Φ → ev X d y S Φ
  | 0, S, h, k => by
    simp only [ev_sn, Option.some.injEq] at h
    rw [h]
    exact k
  | n + 1, S, h, k => by
    simp only [ev_sn] at h
    split at h
    · rename_i i hi
      split at h
      · rename_i S1 hs
        exact ev_ins hq hi hs (ev_n hq n h k)
      · cases h
    · cases h
/-- a branch -/
theorem ev_br (hq : kq_m y = some q) {i : Instr} (hi : mx_look q.2.2.2.2.2 S.1 = some i) {c : Prop} {dc : Decidable c} {S1 S2 : mx_S} (hs : ev_i X d y i S = @ite _ c dc (some S1) (some S2)) (k1 : c → ev X d y S1 Φ) (k2 : ¬ c → ev X d y S2 Φ) : ev X d y S Φ := by
  by_cases hc : c
  · exact ev_ins hq hi (by rw [hs, if_pos hc]) (k1 hc)
  · exact ev_ins hq hi (by rw [hs, if_neg hc]) (k2 hc)
/-- a row's place within its bounds -/
theorem ev_in (hq : kq_m y = some q) {i : Instr} (hi : mx_look q.2.2.2.2.2 S.1 = some i) {c : Prop} {dc : Decidable c} {S1 : mx_S} (hs : ev_i X d y i S = @ite _ c dc none (some S1)) (hc : ¬ c) (k : ev X d y S1 Φ) : ev X d y S Φ :=
  ev_ins hq hi (by rw [hs, if_neg hc]) k
/-- a call of an own method -/
theorem ev_call (hq : kq_m y = some q) {i : Instr} (hi : mx_look q.2.2.2.2.2 S.1 = some i) {k z : Nat} {as rest : List Value} (hc : mx_cal kq_cz kq_ck kq_lay y i S.2.2.1 = some (k, z, as, rest)) (hk : k ≠ 3) {qz : kq_Ty} (hz : kq_m z = some qz) (hl : mx_len1 as ≤ qz.2.2.1) {d' : Nat} (hd : d = d' + 1) {Θ : ev_P}
    (hcal : ev X d' z (0, mx_ent qz.2.2.1 as, [], S.2.2.2.1, S.2.2.2.2) Θ) (kk : ∀ r D' E', Θ r D' E' → ev X d y (S.1 + 3, S.2.1, r.toList ++ rest, D', E') Φ) : ev X d y S Φ := by
  subst hd
  obtain ⟨f1, r1, D1, E1, h1, h2⟩ := hcal
  obtain ⟨f2, r2, D2, E2, h3, h4⟩ := kk r1 D1 E1 h2
  refine ⟨f1 + f2 + 1, r2, D2, E2, ?_, h4⟩
  simp only [kq_run] at h1 h3
  have h1' := mx_mono (show f1 ≤ f1 + f2 by omega) h1
  have h3' := mx_mono (show f2 ≤ f1 + f2 by omega) h3
  have hnf : mx_fin q.2.2.2.1 i S = none := by
    obtain ⟨pc, L, st, D, E⟩ := S
    cases i <;> first | rfl | cases hc
  simp only [kq_run, mx_run, mx_end, mx_stp, kq_mt, kq_cd, hq, hz, Option.map_some, hi, hnf, hc, if_neg hk, if_neg (Nat.not_lt.mpr hl), h1', h3']
/-- a call of an outer method -/
theorem ev_out (hq : kq_m y = some q) {i : Instr} (hi : mx_look q.2.2.2.2.2 S.1 = some i) {z : Nat} {as rest : List Value} (hc : mx_cal kq_cz kq_ck kq_lay y i S.2.2.1 = some (3, z, as, rest)) {v : Value} (hv : kq_sp z as = some v) {d' : Nat} (hd : d = d' + 1) (h8 : 8 ≤ d')
    (kk : ev X d y (S.1 + 3, S.2.1, v :: rest, S.2.2.2.1, S.2.2.2.2) Φ) : ev X d y S Φ := by
  subst hd
  obtain ⟨f2, r2, D2, E2, h3, h4⟩ := kk
  refine ⟨f2 + 1, r2, D2, E2, ?_, h4⟩
  simp only [kq_run] at h3
  have hnf : mx_fin q.2.2.2.1 i S = none := by
    obtain ⟨pc, L, st, D, E⟩ := S
    cases i <;> first | rfl | cases hc
  simp only [kq_run, mx_run, mx_end, mx_stp, kq_mt, kq_cd, hq, Option.map_some, hi, hnf, hc, if_pos, hv, if_neg (Nat.not_lt.mpr h8), h3]
end EW
section EV2
variable {X : ev_X} {d y : Nat} {S : mx_S} {Φ : ev_P} {q : kq_Ty}
/-- n instructions, to the place p -/
theorem ev_a (hq : kq_m y = some q) (n p : Nat) {p0 : Nat} {M : mx_L × List Value × mx_D × mx_E} (h : ev_sn X q.2.2.2.2.2 d y n S = some (p0, M)) (hp : p0 = p) (k : ev X d y (p, M) Φ) : ev X d y S Φ := ev_n hq n h (hp ▸ k)
/-- a branch to t, or on at u -/
theorem ev_b (hq : kq_m y = some q) {i : Instr} (hi : mx_look q.2.2.2.2.2 S.1 = some i) {c : Prop} {dc : Decidable c} {a1 a2 : Nat} {M : mx_L × List Value × mx_D × mx_E} (hs : ev_i X d y i S = @ite _ c dc (some (a1, M)) (some (a2, M))) (t u : Nat) (h1 : a1 = t) (h2 : a2 = u) (k1 : c → ev X d y (t, M) Φ) (k2 : ¬ c → ev X d y (u, M) Φ) : ev X d y S Φ := by
  subst h1; subst h2
  exact ev_br hq hi hs k1 k2
/-- a row's place, and on at t -/
theorem ev_c (hq : kq_m y = some q) {i : Instr} (hi : mx_look q.2.2.2.2.2 S.1 = some i) {c : Prop} {dc : Decidable c} {a1 : Nat} {M : mx_L × List Value × mx_D × mx_E} (hs : ev_i X d y i S = @ite _ c dc none (some (a1, M))) (t : Nat) (h1 : a1 = t) (hc : ¬ c) (k : ev X d y (t, M) Φ) : ev X d y S Φ := by
  subst h1
  exact ev_in hq hi hs hc k
/-- a call, and on at t -/
theorem ev_d (hq : kq_m y = some q) {i : Instr} (hi : mx_look q.2.2.2.2.2 S.1 = some i) {k z : Nat} {as rest : List Value} (hc : mx_cal kq_cz kq_ck kq_lay y i S.2.2.1 = some (k, z, as, rest)) (hk : Nat.beq k 3 = false) {qz : kq_Ty} (hz : kq_m z = some qz) (hl : Nat.ble (mx_len1 as) qz.2.2.1 = true) {d' : Nat} (hd : d = d' + 1) {Θ : ev_P}
    (hcal : ev X d' z (0, mx_ent qz.2.2.1 as, [], S.2.2.2.1, S.2.2.2.2) Θ) (t : Nat) (ht : S.1 + 3 = t) (kk : ∀ r D' E', Θ r D' E' → ev X d y (t, S.2.1, r.toList ++ rest, D', E') Φ) : ev X d y S Φ := by
  subst ht
  refine ev_call hq hi hc (fun e => ?_) hz (Nat.le_of_ble_eq_true hl) hd hcal kk
  subst e
  cases hk
/-- a truth returned -/
theorem ev_rz (hq : kq_m y = some q) (hi : mx_look q.2.2.2.2.2 S.1 = some .ireturn) {v : Int32} (hs : S.2.2.1 = [.int v]) (hr : q.2.2.2.1 = some .boolean) (hv : v = 0 ∨ v = 1) (hp : Φ (some (.int v)) S.2.2.2.1 S.2.2.2.2) : ev X d y S Φ := by
  refine ev_ret hq hi (r := some (.int v)) ?_ hp
  obtain ⟨pc, L, st, D, E⟩ := S
  dsimp only at hs
  subst hs
  rw [hr]
  simp only [mx_fin, if_pos hv]
/-- a condition that must hold, and on at t -/
theorem ev_e (hq : kq_m y = some q) {i : Instr} (hi : mx_look q.2.2.2.2.2 S.1 = some i) {c : Prop} {dc : Decidable c} {a1 : Nat} {M : mx_L × List Value × mx_D × mx_E} (hs : ev_i X d y i S = @ite _ c dc (some (a1, M)) none) (t : Nat) (h1 : a1 = t) (hc : c) (k : ev X d y (t, M) Φ) : ev X d y S Φ := by
  subst h1
  exact ev_ins hq hi (by rw [hs, if_pos hc]) k
end EV2
theorem ev_tf {c : Prop} {dc : Decidable c} : (@ite Int32 c dc 1 0) = 0 ∨ (@ite Int32 c dc 1 0) = 1 := by
  by_cases h : c
  · exact Or.inr (if_pos h)
  · exact Or.inl (if_neg h)
theorem ev_t0 {c : Prop} {dc : Decidable c} : (@ite Int32 c dc 1 0) = 0 ↔ ¬ c := by
  by_cases h : c
  · rw [if_pos h]
    exact ⟨fun q => absurd q (by decide), fun q => absurd h q⟩
  · rw [if_neg h]
    exact ⟨fun _ => h, fun _ => rfl⟩
