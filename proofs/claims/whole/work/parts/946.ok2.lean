theorem kq_eFa (c : Nat) (hc : c < 17) : ∀ e ∈ kq_fL c, kq_pF c e = true := by
  rcases (show c = 0 ∨ c = 1 ∨ c = 2 ∨ c = 3 ∨ c = 4 ∨ c = 5 ∨ c = 6 ∨ c = 7 ∨ c = 8 ∨ c = 9 ∨ c = 10 ∨ c = 11 ∨ c = 12 ∨ c = 13 ∨ c = 14 ∨ c = 15 ∨ c = 16 by omega) with rfl | rfl | rfl | rfl | rfl | rfl | rfl | rfl | rfl | rfl | rfl | rfl | rfl | rfl | rfl | rfl | rfl
  · exact kq_eF0
  · exact kq_eF1
  · exact kq_eF2
  · exact kq_eF3
  · exact kq_eF4
  · exact kq_eF5
  · exact kq_eF6
  · exact kq_eF7
  · exact kq_eF8
  · exact kq_eF9
  · exact kq_eF10
  · exact kq_eF11
  · exact kq_eF12
  · exact kq_eF13
  · exact kq_eF14
  · exact kq_eF15
  · exact kq_eF16
theorem kq_eKa (c : Nat) (hc : c < 17) : ∀ e ∈ kq_kL c, kq_pK c e = true := by
  rcases (show c = 0 ∨ c = 1 ∨ c = 2 ∨ c = 3 ∨ c = 4 ∨ c = 5 ∨ c = 6 ∨ c = 7 ∨ c = 8 ∨ c = 9 ∨ c = 10 ∨ c = 11 ∨ c = 12 ∨ c = 13 ∨ c = 14 ∨ c = 15 ∨ c = 16 by omega) with rfl | rfl | rfl | rfl | rfl | rfl | rfl | rfl | rfl | rfl | rfl | rfl | rfl | rfl | rfl | rfl | rfl
  · exact kq_eK0
  · exact kq_eK1
  · exact kq_eK2
  · exact kq_eK3
  · exact kq_eK4
  · exact kq_eK5
  · exact kq_eK6
  · exact kq_eK7
  · exact kq_eK8
  · exact kq_eK9
  · exact kq_eK10
  · exact kq_eK11
  · exact kq_eK12
  · exact kq_eK13
  · exact kq_eK14
  · exact kq_eK15
  · exact kq_eK16
theorem kq_eNa (c : Nat) (hc : c < 17) : ∀ e ∈ kq_lL c, kq_pN c e = true := by
  rcases (show c = 0 ∨ c = 1 ∨ c = 2 ∨ c = 3 ∨ c = 4 ∨ c = 5 ∨ c = 6 ∨ c = 7 ∨ c = 8 ∨ c = 9 ∨ c = 10 ∨ c = 11 ∨ c = 12 ∨ c = 13 ∨ c = 14 ∨ c = 15 ∨ c = 16 by omega) with rfl | rfl | rfl | rfl | rfl | rfl | rfl | rfl | rfl | rfl | rfl | rfl | rfl | rfl | rfl | rfl | rfl
  · exact kq_eN0
  · exact kq_eN1
  · exact kq_eN2
  · exact kq_eN3
  · exact kq_eN4
  · exact kq_eN5
  · exact kq_eN6
  · exact kq_eN7
  · exact kq_eN8
  · exact kq_eN9
  · exact kq_eN10
  · exact kq_eN11
  · exact kq_eN12
  · exact kq_eN13
  · exact kq_eN14
  · exact kq_eN15
  · exact kq_eN16
theorem kq_sys1 : Cond.native arraycopyName ∈ kq_GW := kq_at_in (p := 3186) (by decide +kernel) rfl
theorem kq_sys2 : Cond.static arraycopyName ∈ kq_GW := kq_at_in (p := 3185) (by decide +kernel) rfl
theorem kq_sys3 : Cond.initialized "java/lang/System" ∈ kq_GW := kq_at_in (p := 1020) (by decide +kernel) rfl
theorem kq_wgt : Cond.fieldLink "LevelSunday$BookSearch" 72 "LevelSunday$BookSearch" "WEIGHT" "[I" ∈ kq_GW := kq_at_in (p := 5002) (by decide +kernel) rfl
theorem kq_mw1 : Cond.static Lib.Math.min.name ∈ kq_GW := kq_at_in (p := 3016) (by decide +kernel) rfl
theorem kq_mw2 : Cond.static Lib.Math.max.name ∈ kq_GW := kq_at_in (p := 4090) (by decide +kernel) rfl
theorem kq_mw3 : Cond.initialized "java/lang/Math" ∈ kq_GW := kq_at_in (p := 1015) (by decide +kernel) rfl
theorem kq_mw4 : Cond.code Lib.Math.min.name Lib.Math.min.code 2 (some .int) ∈ kq_GW := kq_at_in (p := 3017) (by decide +kernel) rfl
theorem kq_mw5 : Cond.code Lib.Math.max.name Lib.Math.max.code 2 (some .int) ∈ kq_GW := kq_at_in (p := 4091) (by decide +kernel) rfl
theorem kq_m_lt {y : Nat} {q : kq_Ty} (h : kq_m y = some q) : y < 338 := by
  unfold kq_m at h
  cases hb : Nat.blt y 338 with
  | true => exact Nat.le_of_ble_eq_true hb
  | false => rw [hb] at h; cases h
theorem kq_cz_of {y : Nat} {q : kq_Ty} (h : kq_m y = some q) : kq_cz y = q.2.2.2.2.1 := by
  unfold kq_cz
  rw [h]
/-- a method of an own kind, or one of String's two -/
theorem kq_own {y : Nat} {q : kq_Ty} (h : kq_m y = some q) : plainName q.1.cls = true ∧ q.2.2.1 ≤ 45 ∧ ((kq_cz y < 17 ∧ q.1.cls = kq_cn (kq_cz y)) ∨ kq_cz y = 17) := by
  have hp := kq_ckPa y (kq_m_lt h)
  simp only [kq_ckP, h, Bool.and_eq_true, Bool.or_eq_true] at hp
  obtain ⟨⟨⟨⟨h1, h2⟩, h3⟩, h4⟩, -⟩ := hp
  refine ⟨h1, Nat.le_of_ble_eq_true h2, ?_⟩
  have h3' : q.2.2.2.2.1 + 1 ≤ 18 := Nat.le_of_ble_eq_true h3
  rw [kq_cz_of h]
  rcases h4 with h4 | h4
  · exact Or.inr (Nat.eq_of_beq_eq_true h4)
  · by_cases h17 : q.2.2.2.2.1 = 17
    · exact Or.inr h17
    · exact Or.inl ⟨by omega, of_decide_eq_true h4⟩
theorem kq_okF {y : Nat} {q : kq_Ty} (h : kq_m y = some q) : mx_okF kq_fl kq_cl kq_GW y q.1.cls := by
  intro idx ci j ty w hf
  unfold kq_fl at hf
  split at hf
  case h_2 => cases hf
  rename_i e he
  simp only [Option.some.injEq, Prod.mk.injEq] at hf
  obtain ⟨rfl, rfl, rfl, rfl⟩ := hf
  have hm := mx_look_mem _ _ _ he
  rcases (kq_own h).2.2 with ⟨hc, hn⟩ | hc
  · have hp := kq_eFa _ hc _ hm
    unfold kq_pF at hp
    split at hp
    case h_1 => cases hp
    rename_i r hr
    simp only [Bool.and_eq_true, Bool.or_eq_true, Bool.not_eq_true'] at hp
    obtain ⟨⟨h1, h2⟩, h3⟩ := hp
    refine ⟨r, hr, Nat.le_of_ble_eq_true h1, ?_, fun hw => ?_⟩
    · rw [hn]
      exact kq_at_in (of_decide_eq_true h2) rfl
    · rcases h3 with h3 | ⟨h3, h4⟩
      · rw [hw] at h3; cases h3
      · exact ⟨of_decide_eq_true h3, of_decide_eq_true h4⟩
  · rw [hc] at hm
    cases hm
theorem kq_okA {y : Nat} {q : kq_Ty} (h : kq_m y = some q) : mx_okA kq_ck kq_GW y q.1.cls := by
  intro idx k a b hf
  unfold kq_ck at hf
  split at hf
  case h_2 => cases hf
  rename_i e he
  obtain ⟨k0, z0, n0, pl⟩ := e
  simp only [Option.some.injEq, Prod.mk.injEq] at hf
  obtain ⟨rfl, rfl, rfl⟩ := hf
  have hm := mx_look_mem _ _ _ he
  rcases (kq_own h).2.2 with ⟨hc, hn⟩ | hc
  · have hp := kq_eNa _ hc _ hm
    rw [hn]
    refine ⟨fun h5 => ?_, fun h5 => ?_, fun h5 => ?_⟩
    · subst h5
      exact ⟨kq_at_in (of_decide_eq_true hp) rfl, kq_sys1, kq_sys2, kq_sys3⟩
    · subst h5
      exact ⟨kq_at_in (of_decide_eq_true hp) rfl, kq_mw1, kq_mw3, kq_mw4⟩
    · subst h5
      exact ⟨kq_at_in (of_decide_eq_true hp) rfl, kq_mw2, kq_mw3, kq_mw5⟩
  · rw [hc] at hm
    cases hm
theorem kq_okN : mx_okN kq_mt kq_cz kq_ck kq_GW kq_cl := by
  intro y idx k z n hf
  unfold kq_ck at hf
  split at hf
  case h_2 => cases hf
  rename_i e he
  simp only [Option.some.injEq, Prod.mk.injEq] at hf
  obtain ⟨rfl, rfl, rfl⟩ := hf
  by_cases h5 : 5 ≤ e.1
  · exact Or.inl h5
  refine Or.inr (fun q u hq hu => ?_)
  unfold kq_mt at hq hu
  obtain ⟨q0, hq0, rfl⟩ := Option.map_eq_some_iff.mp hq
  obtain ⟨u0, hu0, rfl⟩ := Option.map_eq_some_iff.mp hu
  have hm := mx_look_mem _ _ _ he
  rcases (kq_own hq0).2.2 with ⟨hc, hn⟩ | hc
  · have hp := kq_eNa _ hc _ hm
    unfold kq_pN at hp
    rw [show Nat.ble 5 (idx, e).2.1 = false by
      cases hb : Nat.ble 5 (idx, e).2.1 with
      | false => rfl
      | true => exact absurd (Nat.le_of_ble_eq_true hb) h5] at hp
    simp only [cond_false, hu0, Bool.and_eq_true, Bool.or_eq_true, Bool.not_eq_true'] at hp
    obtain ⟨⟨⟨⟨⟨⟨⟨p1, p2⟩, p3⟩, p4⟩, p5⟩, p6⟩, p7⟩, p8⟩ := hp
    have hz : e.2.1 < 337 := Nat.le_of_ble_eq_true p8
    refine ⟨?_, kq_at_in (of_decide_eq_true p2) rfl, ⟨of_decide_eq_true p3, of_decide_eq_true p4, of_decide_eq_true p5⟩, fun h1 => ?_, fun h1 => ?_, fun h0 => ?_, kq_at_in (kq_okWa _ hz _ hu0) rfl⟩
    · rw [hn]
      exact kq_at_in (of_decide_eq_true p1) rfl
    · rw [show Nat.beq e.1 1 = true by rw [h1]; rfl] at p6
      exact kq_at_in (of_decide_eq_true p6) rfl
    · rw [show Nat.beq e.1 1 = false by rcases h1 with h1 | h1 <;> rw [h1] <;> rfl] at p6
      simp only [cond_false, Bool.and_eq_true] at p6
      exact ⟨kq_at_in (of_decide_eq_true p6.1) rfl, kq_at_in (of_decide_eq_true p6.2) rfl⟩
    · rcases p7 with p7 | p7
      · rw [h0] at p7; cases p7
      · split at p7
        · rename_i r hr
          rw [kq_cz_of hu0]
          exact ⟨r, hr, of_decide_eq_true p7⟩
        · cases p7
  · rw [hc] at hm
    cases hm
theorem kq_okCd {y : Nat} {q : kq_Ty} (h : kq_m y = some q) : ∀ pc i, kq_cd y pc = some i → ∃ n, decode q.2.1 pc = .ok (i, n) ∧ (n = mx_len i ∨ mx_len i = 0) := by
  intro pc i hi
  unfold kq_cd at hi
  rw [h] at hi
  have hm := mx_look_mem _ _ _ hi
  have hp := List.all_eq_true.mp (kq_okIa y (kq_m_lt h) q h) _ hm
  dsimp only at hp
  split at hp
  · rename_i r hr
    simp only [Bool.and_eq_true, Bool.or_eq_true] at hp
    refine ⟨r.2, ?_, ?_⟩
    · rw [hr, ← of_decide_eq_true hp.1]
    · rcases hp.2 with h1 | h1
      · exact Or.inl (Nat.eq_of_beq_eq_true h1)
      · exact Or.inr (Nat.eq_of_beq_eq_true h1)
  · cases hp
