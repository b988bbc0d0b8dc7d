/-! ===== the first stores are tied ===== -/
section R0
theorem kz_117 : kq_D0 117 = fun _ => 0 := by
  funext j
  rfl
theorem kz_20 : kq_D0 20 = fun _ => 0 := by
  funext j
  rfl
theorem kz_21 : kq_D0 21 = fun _ => 0 := by
  funext j
  rfl
theorem kz_22 : kq_D0 22 = fun _ => 0 := by
  funext j
  rfl
theorem kz_23 : kq_D0 23 = fun _ => 0 := by
  funext j
  rfl
theorem kz_61 : kq_D0 61 = fun _ => 0 := by
  funext j
  rfl
theorem kz_119 : kq_D0 119 = fun _ => 0 := by
  funext j
  rfl
theorem kz_n : nP (fun _ => 0) = 0 ∧ nL (fun _ => 0) = 0 ∧ nV (fun _ => 0) = 0 ∧ nA (fun _ => 0) = 0 ∧ nH (fun _ => 0) = 0 ∧ nB (fun _ => 0) = 0 ∧ nN (fun _ => 0) = 0 := ⟨rfl, rfl, rfl, rfl, rfl, rfl, rfl⟩
theorem kz_ti (i : Nat) : ti (fun _ => 0) i = 0 := rfl
theorem kz_WF : WF (fun _ => 0) := by
  obtain ⟨h1, h2, h3, h4, h5, h6, h7⟩ := kz_n
  unfold WF
  rw [h1, h2, h3, h4, h5, h6, h7]
  refine ⟨⟨rfl, by omega⟩, ⟨rfl, by omega⟩, ⟨rfl, by omega⟩, Or.inl rfl, ⟨rfl, by omega⟩, ⟨rfl, by omega⟩, ⟨rfl, by omega⟩, ⟨rfl, by omega⟩, ⟨Iff.rfl, Iff.rfl, id, id, id⟩, fun j hj => ?_, fun j hj => ?_, fun x hx => absurd hx (Nat.not_lt_zero x), fun x hx => absurd hx (Nat.not_lt_zero x), fun x hx => absurd hx (Nat.not_lt_zero x), fun x hx => absurd hx (Nat.not_lt_zero x), fun x hx => absurd hx (Nat.not_lt_zero x), fun x hx => absurd hx (Nat.not_lt_zero x)⟩
  · simp only [kz_ti]
    decide
  · simp only [kz_ti]
    decide
theorem kz_RL : RL kq_D0 kq_E0 := by
  unfold RL
  refine ⟨by rw [kz_117]; exact kz_WF, ?_, ?_, ⟨0, by omega, by decide +kernel, by decide +kernel, fun j hj => absurd hj (Nat.not_lt_zero j)⟩, ⟨by decide +kernel, by decide +kernel⟩, fun k hk => ⟨by rw [kz_61, kz_119], Or.inl (by rw [kz_61]; rfl)⟩, fun s hs => Or.inl ?_⟩
  · rw [kz_117]
    refine ⟨fun x y hx => ?_, fun x y hx => ?_⟩
    · rw [kz_n.2.2.2.1] at hx
      exact absurd hx (Nat.not_lt_zero x)
    · rw [kz_n.2.2.2.1] at hx
      exact absurd hx (Nat.not_lt_zero x)
  · unfold CC CH
    rw [kz_117, kz_n.2.2.2.1, kz_n.2.2.2.2.1, kz_n.2.2.2.2.2.1]
    refine ⟨⟨by decide +kernel, by decide +kernel, by decide +kernel, by decide +kernel, by decide +kernel, by decide +kernel, by decide +kernel, by decide +kernel⟩, fun j hj => ⟨by rw [kz_20], by rw [kz_21], by rw [kz_22]⟩, fun j hj => by rw [kz_23], fun x hx => absurd hx (Nat.not_lt_zero x), fun x hx => absurd hx (Nat.not_lt_zero x), fun x hx => absurd hx (Nat.not_lt_zero x)⟩
  · rcases (show s = 0 ∨ s = 1 ∨ s = 2 ∨ s = 3 by omega) with rfl | rfl | rfl | rfl
    · exact ⟨by decide +kernel, by decide +kernel⟩
    · exact ⟨by decide +kernel, by decide +kernel⟩
    · exact ⟨by decide +kernel, by decide +kernel⟩
    · exact ⟨by decide +kernel, by decide +kernel⟩
end R0
