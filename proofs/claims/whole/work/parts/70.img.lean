/-! ===== images ===== -/
section IG
variable {D : mx_D} {E : mx_E} {w : W_} {F : Nat}
/-- all that a church keeps is kept alike from b on and from a on -/
def SAME (D D' : mx_D) (a b : Nat) : Prop := (D' a 0 = D b 0 ∧ D' a 1 = D b 1 ∧ D' a 2 = D b 2 ∧ D' a 3 = D b 3 ∧ D' a 4 = D b 4 ∧ D' a 10 = D b 10 ∧ D' a 12 = D b 12 ∧ D' (a + 5) 6 = D (b + 5) 6) ∧
  (∀ j, j < 4 → D' (a + 1) j = D (b + 1) j ∧ D' (a + 2) j = D (b + 2) j ∧ D' (a + 3) j = D (b + 3) j) ∧ (∀ j, j < 20 → D' (a + 4) j = D (b + 4) j) ∧
  (∀ j, j < 8 → D' (a + 6) j = D (b + 6) j ∧ D' (a + 7) j = D (b + 7) j ∧ D' (a + 8) j = D (b + 8) j ∧ D' (a + 9) j = D (b + 9) j ∧ D' (a + 10) j = D (b + 10) j ∧ D' (a + 11) j = D (b + 11) j) ∧
  (∀ j, j < 8 → D' (a + 12) j = D (b + 12) j) ∧ (∀ j, j < 5 → D' (a + 13) j = D (b + 13) j ∧ D' (a + 14) j = D (b + 14) j)
theorem CH_same {D D' : mx_D} {a b : Nat} (hW : WF w) (hC : CH D b w) (hS : SAME D D' a b) : CH D' a w := by
  have h8 := wf_A8 hW
  have hH := wf_H8 hW
  have hB := wf_B5 hW
  obtain ⟨⟨a1, a2, a3, a4, a5, a6, a7, a8⟩, s2, s3, s4, s5, s6⟩ := hS
  obtain ⟨⟨c1, c2, c3, c4, c5, c6, c7, c8⟩, d2, d3, d4, d5, d6⟩ := hC
  refine ⟨⟨a1.trans c1, a2.trans c2, a3.trans c3, a4.trans c4, a5.trans c5, a6.trans c6, a7.trans c7, a8.trans c8⟩, fun j hj => ?_, fun j hj => (s3 j hj).trans (d3 j hj), fun x hx => ?_, fun x hx => (s5 x (by omega)).trans (d5 x hx), fun b hb => ?_⟩
  · obtain ⟨p1, p2, p3⟩ := s2 j hj
    obtain ⟨q1, q2, q3⟩ := d2 j hj
    exact ⟨p1.trans q1, p2.trans q2, p3.trans q3⟩
  · obtain ⟨p1, p2, p3, p4, p5, p6⟩ := s4 x (by omega)
    obtain ⟨q1, q2, q3, q4, q5, q6⟩ := d4 x hx
    exact ⟨p1.trans q1, p2.trans q2, p3.trans q3, p4.trans q4, p5.trans q5, p6.trans q6⟩
  · obtain ⟨p1, p2⟩ := s6 b (by omega)
    obtain ⟨q1, q2⟩ := d6 b hb
    exact ⟨p1.trans q1, p2.trans q2⟩
theorem cD_0r (D : mx_D) (a b n : Nat) {j : Nat} (h2 : j < n) : cD D a b 0 0 n b j = D a j := cD_0 D a b h2
theorem cp_Church_copyOf_63_19 (D : mx_D) (h3 : D 19 3 = nI 0 ∨ D 19 3 = nI 1) : ∃ D', g_Church_copyOf_63_19 D = some D' ∧ (∀ c, c < 63 ∨ 63 + 15 ≤ c → D' c = D c) ∧ SAME D D' 63 19 := by
  unfold g_Church_copyOf_63_19 g_People_copyOf_68_24
  simp (disch := omega) only [sD_ne, cD_nr, sD_nr, sD_nj]
  have hz : ∀ k : Option mx_D, zk (D 19 3) k = k := fun k => by
    rcases h3 with q | q
    · rw [q, zk_0]
    · rw [q, zk_1]
  rw [hz]
  refine ⟨_, rfl, fun c hc => ?_, ⟨?_, ?_, ?_, ?_, ?_, ?_, ?_, ?_⟩, fun j hj => ⟨?_, ?_, ?_⟩, fun j hj => ?_, fun j hj => ⟨?_, ?_, ?_, ?_, ?_, ?_⟩, fun j hj => ?_, fun j hj => ⟨?_, ?_⟩⟩
  all_goals simp (disch := omega) only [sD_ne, cD_nr, sD_nr, sD_nj, sD_eq, cD_0r, Nat.reduceAdd]
theorem cp_Church_copyOf_78_19 (D : mx_D) (h3 : D 19 3 = nI 0 ∨ D 19 3 = nI 1) : ∃ D', g_Church_copyOf_78_19 D = some D' ∧ (∀ c, c < 78 ∨ 78 + 15 ≤ c → D' c = D c) ∧ SAME D D' 78 19 := by
  unfold g_Church_copyOf_78_19 g_People_copyOf_83_24
  simp (disch := omega) only [sD_ne, cD_nr, sD_nr, sD_nj]
  have hz : ∀ k : Option mx_D, zk (D 19 3) k = k := fun k => by
    rcases h3 with q | q
    · rw [q, zk_0]
    · rw [q, zk_1]
  rw [hz]
  refine ⟨_, rfl, fun c hc => ?_, ⟨?_, ?_, ?_, ?_, ?_, ?_, ?_, ?_⟩, fun j hj => ⟨?_, ?_, ?_⟩, fun j hj => ?_, fun j hj => ⟨?_, ?_, ?_, ?_, ?_, ?_⟩, fun j hj => ?_, fun j hj => ⟨?_, ?_⟩⟩
  all_goals simp (disch := omega) only [sD_ne, cD_nr, sD_nr, sD_nj, sD_eq, cD_0r, Nat.reduceAdd]
theorem cp_Church_copyOf_93_19 (D : mx_D) (h3 : D 19 3 = nI 0 ∨ D 19 3 = nI 1) : ∃ D', g_Church_copyOf_93_19 D = some D' ∧ (∀ c, c < 93 ∨ 93 + 15 ≤ c → D' c = D c) ∧ SAME D D' 93 19 := by
  unfold g_Church_copyOf_93_19 g_People_copyOf_98_24
  simp (disch := omega) only [sD_ne, cD_nr, sD_nr, sD_nj]
  have hz : ∀ k : Option mx_D, zk (D 19 3) k = k := fun k => by
    rcases h3 with q | q
    · rw [q, zk_0]
    · rw [q, zk_1]
  rw [hz]
  refine ⟨_, rfl, fun c hc => ?_, ⟨?_, ?_, ?_, ?_, ?_, ?_, ?_, ?_⟩, fun j hj => ⟨?_, ?_, ?_⟩, fun j hj => ?_, fun j hj => ⟨?_, ?_, ?_, ?_, ?_, ?_⟩, fun j hj => ?_, fun j hj => ⟨?_, ?_⟩⟩
  all_goals simp (disch := omega) only [sD_ne, cD_nr, sD_nr, sD_nj, sD_eq, cD_0r, Nat.reduceAdd]
theorem cp_Church_copyOf_63 (D : mx_D) (h3 : D 63 3 = nI 0 ∨ D 63 3 = nI 1) : ∃ D', g_Church_copyOf_63 D = some D' ∧ (∀ c, c < 19 ∨ 19 + 15 ≤ c → D' c = D c) ∧ SAME D D' 19 63 := by
  unfold g_Church_copyOf_63 g_People_copyOf_68
  simp (disch := omega) only [sD_ne, cD_nr, sD_nr, sD_nj]
  have hz : ∀ k : Option mx_D, zk (D 63 3) k = k := fun k => by
    rcases h3 with q | q
    · rw [q, zk_0]
    · rw [q, zk_1]
  rw [hz]
  refine ⟨_, rfl, fun c hc => ?_, ⟨?_, ?_, ?_, ?_, ?_, ?_, ?_, ?_⟩, fun j hj => ⟨?_, ?_, ?_⟩, fun j hj => ?_, fun j hj => ⟨?_, ?_, ?_, ?_, ?_, ?_⟩, fun j hj => ?_, fun j hj => ⟨?_, ?_⟩⟩
  all_goals simp (disch := omega) only [sD_ne, cD_nr, sD_nr, sD_nj, sD_eq, cD_0r, Nat.reduceAdd]
theorem cp_Church_copyOf_78 (D : mx_D) (h3 : D 78 3 = nI 0 ∨ D 78 3 = nI 1) : ∃ D', g_Church_copyOf_78 D = some D' ∧ (∀ c, c < 19 ∨ 19 + 15 ≤ c → D' c = D c) ∧ SAME D D' 19 78 := by
  unfold g_Church_copyOf_78 g_People_copyOf_83
  simp (disch := omega) only [sD_ne, cD_nr, sD_nr, sD_nj]
  have hz : ∀ k : Option mx_D, zk (D 78 3) k = k := fun k => by
    rcases h3 with q | q
    · rw [q, zk_0]
    · rw [q, zk_1]
  rw [hz]
  refine ⟨_, rfl, fun c hc => ?_, ⟨?_, ?_, ?_, ?_, ?_, ?_, ?_, ?_⟩, fun j hj => ⟨?_, ?_, ?_⟩, fun j hj => ?_, fun j hj => ⟨?_, ?_, ?_, ?_, ?_, ?_⟩, fun j hj => ?_, fun j hj => ⟨?_, ?_⟩⟩
  all_goals simp (disch := omega) only [sD_ne, cD_nr, sD_nr, sD_nj, sD_eq, cD_0r, Nat.reduceAdd]
theorem cp_Church_copyOf_93 (D : mx_D) (h3 : D 93 3 = nI 0 ∨ D 93 3 = nI 1) : ∃ D', g_Church_copyOf_93 D = some D' ∧ (∀ c, c < 19 ∨ 19 + 15 ≤ c → D' c = D c) ∧ SAME D D' 19 93 := by
  unfold g_Church_copyOf_93 g_People_copyOf_98
  simp (disch := omega) only [sD_ne, cD_nr, sD_nr, sD_nj]
  have hz : ∀ k : Option mx_D, zk (D 93 3) k = k := fun k => by
    rcases h3 with q | q
    · rw [q, zk_0]
    · rw [q, zk_1]
  rw [hz]
  refine ⟨_, rfl, fun c hc => ?_, ⟨?_, ?_, ?_, ?_, ?_, ?_, ?_, ?_⟩, fun j hj => ⟨?_, ?_, ?_⟩, fun j hj => ?_, fun j hj => ⟨?_, ?_, ?_, ?_, ?_, ?_⟩, fun j hj => ?_, fun j hj => ⟨?_, ?_⟩⟩
  all_goals simp (disch := omega) only [sD_ne, cD_nr, sD_nr, sD_nj, sD_eq, cD_0r, Nat.reduceAdd]
theorem cp_Church_copyOf_4 (D : mx_D) (h3 : D 4 3 = nI 0 ∨ D 4 3 = nI 1) : ∃ D', g_Church_copyOf_4 D = some D' ∧ (∀ c, c < 19 ∨ 19 + 15 ≤ c → D' c = D c) ∧ SAME D D' 19 4 := by
  unfold g_Church_copyOf_4 g_People_copyOf_9
  simp (disch := omega) only [sD_ne, cD_nr, sD_nr, sD_nj]
  have hz : ∀ k : Option mx_D, zk (D 4 3) k = k := fun k => by
    rcases h3 with q | q
    · rw [q, zk_0]
    · rw [q, zk_1]
  rw [hz]
  refine ⟨_, rfl, fun c hc => ?_, ⟨?_, ?_, ?_, ?_, ?_, ?_, ?_, ?_⟩, fun j hj => ⟨?_, ?_, ?_⟩, fun j hj => ?_, fun j hj => ⟨?_, ?_, ?_, ?_, ?_, ?_⟩, fun j hj => ?_, fun j hj => ⟨?_, ?_⟩⟩
  all_goals simp (disch := omega) only [sD_ne, cD_nr, sD_nr, sD_nj, sD_eq, cD_0r, Nat.reduceAdd]
end IG
