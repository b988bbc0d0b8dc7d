/-! ===== the tables say what the Statement says: the words ===== -/
def kq_tab (k : Nat) : List Cond := cond (Nat.beq k 0) (k2_sels lw_privs) (cond (Nat.beq k 1) tables_1_1 (cond (Nat.beq k 2) tables_1_2 (cond (Nat.beq k 3) tables_1_3 (cond (Nat.beq k 4) tables_1_4 (cond (Nat.beq k 5) tables_1_5 (cond (Nat.beq k 6) tables_1_6 (cond (Nat.beq k 7) tables_1_7 (cond (Nat.beq k 8) tables_1_8 (cond (Nat.beq k 9) tables_1_9 [])))))))))
def kq_at (p : Nat) : Option Cond := (kq_tab (p / 1000))[p % 1000]?
theorem kq_tab_in (k : Nat) : ∀ w ∈ kq_tab k, w ∈ lw_tbl := by
  intro w hw
  have ap : lw_tbl = k2_sels lw_privs ++ (tables_1_1 ++ (tables_1_2 ++ (tables_1_3 ++ (tables_1_4 ++ (tables_1_5 ++ (tables_1_6 ++ (tables_1_7 ++ (tables_1_8 ++ tables_1_9)))))))) := rfl
  rw [ap]
  simp only [List.mem_append]
  unfold kq_tab at hw
  cases h0 : Nat.beq k 0 with
  | true => rw [h0] at hw; exact Or.inl hw
  | false =>
  rw [h0] at hw
  cases h1 : Nat.beq k 1 with
  | true => rw [h1] at hw; exact Or.inr (Or.inl hw)
  | false =>
  rw [h1] at hw
  cases h2 : Nat.beq k 2 with
  | true => rw [h2] at hw; exact Or.inr (Or.inr (Or.inl hw))
  | false =>
  rw [h2] at hw
  cases h3 : Nat.beq k 3 with
  | true => rw [h3] at hw; exact Or.inr (Or.inr (Or.inr (Or.inl hw)))
  | false =>
  rw [h3] at hw
  cases h4 : Nat.beq k 4 with
  | true => rw [h4] at hw; exact Or.inr (Or.inr (Or.inr (Or.inr (Or.inl hw))))
  | false =>
  rw [h4] at hw
  cases h5 : Nat.beq k 5 with
  | true => rw [h5] at hw; exact Or.inr (Or.inr (Or.inr (Or.inr (Or.inr (Or.inl hw)))))
  | false =>
  rw [h5] at hw
  cases h6 : Nat.beq k 6 with
  | true => rw [h6] at hw; exact Or.inr (Or.inr (Or.inr (Or.inr (Or.inr (Or.inr (Or.inl hw))))))
  | false =>
  rw [h6] at hw
  cases h7 : Nat.beq k 7 with
  | true => rw [h7] at hw; exact Or.inr (Or.inr (Or.inr (Or.inr (Or.inr (Or.inr (Or.inr (Or.inl hw)))))))
  | false =>
  rw [h7] at hw
  cases h8 : Nat.beq k 8 with
  | true => rw [h8] at hw; exact Or.inr (Or.inr (Or.inr (Or.inr (Or.inr (Or.inr (Or.inr (Or.inr (Or.inl hw))))))))
  | false =>
  rw [h8] at hw
  cases h9 : Nat.beq k 9 with
  | true => rw [h9] at hw; exact Or.inr (Or.inr (Or.inr (Or.inr (Or.inr (Or.inr (Or.inr (Or.inr (Or.inr hw))))))))
  | false => rw [h9] at hw; cases hw
def kq_GW : List Cond := lw_tbl.filter goodWord
theorem kq_gd : ∀ w ∈ kq_GW, goodWord w = true := fun w h => (List.mem_filter.mp h).2
theorem kq_at_in {p : Nat} {w : Cond} (h : kq_at p = some w) (hg : goodWord w = true) : w ∈ kq_GW := List.mem_filter.mpr ⟨kq_tab_in _ w (List.mem_of_getElem? h), hg⟩
/-- a list looked at piece by piece -/
theorem kq_pieces {α : Type} {l : List α} {P : α → Bool} (n : Nat) (hn : 0 < n) (h : ∀ k, n * k < l.length → ((l.drop (n * k)).take n).all P = true) : ∀ e ∈ l, P e = true := by
  intro e he
  obtain ⟨i, hi⟩ := List.getElem?_of_mem he
  have hl := (List.getElem?_eq_some_iff.mp hi).1
  have h1 : n * (i / n) ≤ i := Nat.mul_div_le i n
  have h2 : i - n * (i / n) < n := by
    have := Nat.mod_lt i hn
    have h3 := Nat.div_add_mod i n
    omega
  refine List.all_eq_true.mp (h (i / n) (by omega)) e (List.mem_of_getElem? (i := i - n * (i / n)) ?_)
  rw [List.getElem?_take_of_lt h2, List.getElem?_drop, show n * (i / n) + (i - n * (i / n)) = i by omega]
  exact hi
def kq_pF (c : Nat) (e : Nat × Nat × Nat × Nat × Bool × Nat) : Bool := match kq_cl[e.2.1]? with
  | none => false
  | some q => Nat.blt e.2.2.1 q.2.2 && decide (kq_at e.2.2.2.2.2 = some (Cond.fieldLink (kq_cn c) e.1 (q.2.1 e.2.2.1).1 (q.2.1 e.2.2.1).2.1 (q.2.1 e.2.2.1).2.2.1)) && (!e.2.2.2.2.1 || (decide ((q.2.1 e.2.2.1).2.2.2 = false) && decide (parseFieldDescriptor (q.2.1 e.2.2.1).2.2.1 = some (mx_ty e.2.2.2.1))))
def kq_pK (c : Nat) (e : Nat × Value × Nat) : Bool := match e.2.1 with
  | .int x => decide (kq_at e.2.2 = some (Cond.constant (kq_cn c) e.1 x))
  | .long x => decide (kq_at e.2.2 = some (Cond.constantLong (kq_cn c) e.1 x))
  | .ref k => Nat.ble 1000 k && Nat.blt k 1021
  | _ => false
def kq_pN (c : Nat) (e : Nat × Nat × Nat × Nat × Nat) : Bool := cond (Nat.ble 5 e.2.1) (cond (Nat.beq e.2.1 5) (decide (kq_at e.2.2.2.2 = some (Cond.methodLink (kq_cn c) e.1 arraycopyName))) (cond (Nat.beq e.2.1 6) (decide (kq_at e.2.2.2.2 = some (Cond.methodLink (kq_cn c) e.1 Lib.Math.min.name))) (decide (kq_at e.2.2.2.2 = some (Cond.methodLink (kq_cn c) e.1 Lib.Math.max.name))))) (match kq_m e.2.2.1 with
  | none => false
  | some u => decide (kq_at e.2.2.2.2 = some (Cond.methodLink (kq_cn c) e.1 u.1)) && decide (kq_at (kq_pl e.2.2.1).2.2.2 = some (Cond.initialized u.1.cls)) && decide (u.1.cls ≠ "java/lang/invoke/MethodHandle") && decide (u.1.cls ≠ "java/lang/invoke/VarHandle") && decide ((parseMethodDescriptor u.1.desc).map (fun d => d.parameters.length) = some e.2.2.2.1) && (cond (Nat.beq e.2.1 1) (decide (kq_at (kq_pl e.2.2.1).2.1 = some (Cond.static u.1))) (decide (kq_at (kq_pl e.2.2.1).2.1 = some (Cond.instanceMethod u.1)) && decide (kq_at (kq_pl e.2.2.1).2.2.1 = some (Cond.selects u.1.cls u.1 u.1)))) && (!(Nat.beq e.2.1 0) || (match kq_cl[u.2.2.2.2.1]? with
      | some r => decide (r.1 = u.1.cls)
      | none => false)) && Nat.blt e.2.2.1 337)
theorem kq_eF0_0 : ((kq_f0.drop (20 * 0)).take 20).all (kq_pF 0) = true := by decide +kernel
theorem kq_eF0 : ∀ e ∈ kq_f0, kq_pF 0 e = true := kq_pieces 20 (by decide) (fun k hk => by
  have hk : 20 * k < 15 := hk
  rcases (show k = 0 by omega) with rfl
  · exact kq_eF0_0)
theorem kq_eF1_0 : ((kq_f1.drop (20 * 0)).take 20).all (kq_pF 1) = true := by decide +kernel
theorem kq_eF1_1 : ((kq_f1.drop (20 * 1)).take 20).all (kq_pF 1) = true := by decide +kernel
theorem kq_eF1 : ∀ e ∈ kq_f1, kq_pF 1 e = true := kq_pieces 20 (by decide) (fun k hk => by
  have hk : 20 * k < 22 := hk
  rcases (show k = 0 ∨ k = 1 by omega) with rfl | rfl
  · exact kq_eF1_0
  · exact kq_eF1_1)
theorem kq_eF2_0 : ((kq_f2.drop (20 * 0)).take 20).all (kq_pF 2) = true := by decide +kernel
theorem kq_eF2 : ∀ e ∈ kq_f2, kq_pF 2 e = true := kq_pieces 20 (by decide) (fun k hk => by
  have hk : 20 * k < 4 := hk
  rcases (show k = 0 by omega) with rfl
  · exact kq_eF2_0)
theorem kq_eF3_0 : ((kq_f3.drop (20 * 0)).take 20).all (kq_pF 3) = true := by decide +kernel
theorem kq_eF3 : ∀ e ∈ kq_f3, kq_pF 3 e = true := kq_pieces 20 (by decide) (fun k hk => by
  have hk : 20 * k < 16 := hk
  rcases (show k = 0 by omega) with rfl
  · exact kq_eF3_0)
theorem kq_eF4_0 : ((kq_f4.drop (20 * 0)).take 20).all (kq_pF 4) = true := by decide +kernel
theorem kq_eF4 : ∀ e ∈ kq_f4, kq_pF 4 e = true := kq_pieces 20 (by decide) (fun k hk => by
  have hk : 20 * k < 8 := hk
  rcases (show k = 0 by omega) with rfl
  · exact kq_eF4_0)
theorem kq_eF5_0 : ((kq_f5.drop (20 * 0)).take 20).all (kq_pF 5) = true := by decide +kernel
theorem kq_eF5 : ∀ e ∈ kq_f5, kq_pF 5 e = true := kq_pieces 20 (by decide) (fun k hk => by
  have hk : 20 * k < 7 := hk
  rcases (show k = 0 by omega) with rfl
  · exact kq_eF5_0)
theorem kq_eF6_0 : ((kq_f6.drop (20 * 0)).take 20).all (kq_pF 6) = true := by decide +kernel
theorem kq_eF6_1 : ((kq_f6.drop (20 * 1)).take 20).all (kq_pF 6) = true := by decide +kernel
theorem kq_eF6 : ∀ e ∈ kq_f6, kq_pF 6 e = true := kq_pieces 20 (by decide) (fun k hk => by
  have hk : 20 * k < 28 := hk
  rcases (show k = 0 ∨ k = 1 by omega) with rfl | rfl
  · exact kq_eF6_0
  · exact kq_eF6_1)
theorem kq_eF7_0 : ((kq_f7.drop (20 * 0)).take 20).all (kq_pF 7) = true := by decide +kernel
theorem kq_eF7 : ∀ e ∈ kq_f7, kq_pF 7 e = true := kq_pieces 20 (by decide) (fun k hk => by
  have hk : 20 * k < 4 := hk
  rcases (show k = 0 by omega) with rfl
  · exact kq_eF7_0)
theorem kq_eF8_0 : ((kq_f8.drop (20 * 0)).take 20).all (kq_pF 8) = true := by decide +kernel
theorem kq_eF8 : ∀ e ∈ kq_f8, kq_pF 8 e = true := kq_pieces 20 (by decide) (fun k hk => by
  have hk : 20 * k < 13 := hk
  rcases (show k = 0 by omega) with rfl
  · exact kq_eF8_0)
theorem kq_eF9_0 : ((kq_f9.drop (20 * 0)).take 20).all (kq_pF 9) = true := by decide +kernel
theorem kq_eF9 : ∀ e ∈ kq_f9, kq_pF 9 e = true := kq_pieces 20 (by decide) (fun k hk => by
  have hk : 20 * k < 10 := hk
  rcases (show k = 0 by omega) with rfl
  · exact kq_eF9_0)
theorem kq_eF10_0 : ((kq_f10.drop (20 * 0)).take 20).all (kq_pF 10) = true := by decide +kernel
theorem kq_eF10 : ∀ e ∈ kq_f10, kq_pF 10 e = true := kq_pieces 20 (by decide) (fun k hk => by
  have hk : 20 * k < 2 := hk
  rcases (show k = 0 by omega) with rfl
  · exact kq_eF10_0)
theorem kq_eF11_0 : ((kq_f11.drop (20 * 0)).take 20).all (kq_pF 11) = true := by decide +kernel
theorem kq_eF11_1 : ((kq_f11.drop (20 * 1)).take 20).all (kq_pF 11) = true := by decide +kernel
theorem kq_eF11_2 : ((kq_f11.drop (20 * 2)).take 20).all (kq_pF 11) = true := by decide +kernel
theorem kq_eF11 : ∀ e ∈ kq_f11, kq_pF 11 e = true := kq_pieces 20 (by decide) (fun k hk => by
  have hk : 20 * k < 48 := hk
  rcases (show k = 0 ∨ k = 1 ∨ k = 2 by omega) with rfl | rfl | rfl
  · exact kq_eF11_0
  · exact kq_eF11_1
  · exact kq_eF11_2)
theorem kq_eF12_0 : ((kq_f12.drop (20 * 0)).take 20).all (kq_pF 12) = true := by decide +kernel
theorem kq_eF12_1 : ((kq_f12.drop (20 * 1)).take 20).all (kq_pF 12) = true := by decide +kernel
theorem kq_eF12 : ∀ e ∈ kq_f12, kq_pF 12 e = true := kq_pieces 20 (by decide) (fun k hk => by
  have hk : 20 * k < 39 := hk
  rcases (show k = 0 ∨ k = 1 by omega) with rfl | rfl
  · exact kq_eF12_0
  · exact kq_eF12_1)
theorem kq_eF13 : ∀ e ∈ kq_f13, kq_pF 13 e = true := kq_pieces 20 (by decide) (fun k hk => by
  have hk : 20 * k < 0 := hk
  omega)
theorem kq_eF14 : ∀ e ∈ kq_f14, kq_pF 14 e = true := kq_pieces 20 (by decide) (fun k hk => by
  have hk : 20 * k < 0 := hk
  omega)
theorem kq_eF15 : ∀ e ∈ kq_f15, kq_pF 15 e = true := kq_pieces 20 (by decide) (fun k hk => by
  have hk : 20 * k < 0 := hk
  omega)
theorem kq_eF16 : ∀ e ∈ kq_f16, kq_pF 16 e = true := kq_pieces 20 (by decide) (fun k hk => by
  have hk : 20 * k < 0 := hk
  omega)
theorem kq_eK0_0 : ((kq_k0.drop (20 * 0)).take 20).all (kq_pK 0) = true := by decide +kernel
theorem kq_eK0 : ∀ e ∈ kq_k0, kq_pK 0 e = true := kq_pieces 20 (by decide) (fun k hk => by
  have hk : 20 * k < 1 := hk
  rcases (show k = 0 by omega) with rfl
  · exact kq_eK0_0)
theorem kq_eK1 : ∀ e ∈ kq_k1, kq_pK 1 e = true := kq_pieces 20 (by decide) (fun k hk => by
  have hk : 20 * k < 0 := hk
  omega)
theorem kq_eK2 : ∀ e ∈ kq_k2, kq_pK 2 e = true := kq_pieces 20 (by decide) (fun k hk => by
  have hk : 20 * k < 0 := hk
  omega)
theorem kq_eK3 : ∀ e ∈ kq_k3, kq_pK 3 e = true := kq_pieces 20 (by decide) (fun k hk => by
  have hk : 20 * k < 0 := hk
  omega)
theorem kq_eK4_0 : ((kq_k4.drop (20 * 0)).take 20).all (kq_pK 4) = true := by decide +kernel
theorem kq_eK4 : ∀ e ∈ kq_k4, kq_pK 4 e = true := kq_pieces 20 (by decide) (fun k hk => by
  have hk : 20 * k < 5 := hk
  rcases (show k = 0 by omega) with rfl
  · exact kq_eK4_0)
theorem kq_eK5 : ∀ e ∈ kq_k5, kq_pK 5 e = true := kq_pieces 20 (by decide) (fun k hk => by
  have hk : 20 * k < 0 := hk
  omega)
theorem kq_eK6_0 : ((kq_k6.drop (20 * 0)).take 20).all (kq_pK 6) = true := by decide +kernel
theorem kq_eK6_1 : ((kq_k6.drop (20 * 1)).take 20).all (kq_pK 6) = true := by decide +kernel
theorem kq_eK6 : ∀ e ∈ kq_k6, kq_pK 6 e = true := kq_pieces 20 (by decide) (fun k hk => by
  have hk : 20 * k < 22 := hk
  rcases (show k = 0 ∨ k = 1 by omega) with rfl | rfl
  · exact kq_eK6_0
  · exact kq_eK6_1)
theorem kq_eK7 : ∀ e ∈ kq_k7, kq_pK 7 e = true := kq_pieces 20 (by decide) (fun k hk => by
  have hk : 20 * k < 0 := hk
  omega)
theorem kq_eK8 : ∀ e ∈ kq_k8, kq_pK 8 e = true := kq_pieces 20 (by decide) (fun k hk => by
  have hk : 20 * k < 0 := hk
  omega)
theorem kq_eK9 : ∀ e ∈ kq_k9, kq_pK 9 e = true := kq_pieces 20 (by decide) (fun k hk => by
  have hk : 20 * k < 0 := hk
  omega)
theorem kq_eK10 : ∀ e ∈ kq_k10, kq_pK 10 e = true := kq_pieces 20 (by decide) (fun k hk => by
  have hk : 20 * k < 0 := hk
  omega)
theorem kq_eK11_0 : ((kq_k11.drop (20 * 0)).take 20).all (kq_pK 11) = true := by decide +kernel
theorem kq_eK11 : ∀ e ∈ kq_k11, kq_pK 11 e = true := kq_pieces 20 (by decide) (fun k hk => by
  have hk : 20 * k < 1 := hk
  rcases (show k = 0 by omega) with rfl
  · exact kq_eK11_0)
theorem kq_eK12_0 : ((kq_k12.drop (20 * 0)).take 20).all (kq_pK 12) = true := by decide +kernel
theorem kq_eK12_1 : ((kq_k12.drop (20 * 1)).take 20).all (kq_pK 12) = true := by decide +kernel
theorem kq_eK12 : ∀ e ∈ kq_k12, kq_pK 12 e = true := kq_pieces 20 (by decide) (fun k hk => by
  have hk : 20 * k < 40 := hk
  rcases (show k = 0 ∨ k = 1 by omega) with rfl | rfl
  · exact kq_eK12_0
  · exact kq_eK12_1)
theorem kq_eK13_0 : ((kq_k13.drop (20 * 0)).take 20).all (kq_pK 13) = true := by decide +kernel
theorem kq_eK13 : ∀ e ∈ kq_k13, kq_pK 13 e = true := kq_pieces 20 (by decide) (fun k hk => by
  have hk : 20 * k < 1 := hk
  rcases (show k = 0 by omega) with rfl
  · exact kq_eK13_0)
theorem kq_eK14_0 : ((kq_k14.drop (20 * 0)).take 20).all (kq_pK 14) = true := by decide +kernel
theorem kq_eK14 : ∀ e ∈ kq_k14, kq_pK 14 e = true := kq_pieces 20 (by decide) (fun k hk => by
  have hk : 20 * k < 3 := hk
  rcases (show k = 0 by omega) with rfl
  · exact kq_eK14_0)
theorem kq_eK15 : ∀ e ∈ kq_k15, kq_pK 15 e = true := kq_pieces 20 (by decide) (fun k hk => by
  have hk : 20 * k < 0 := hk
  omega)
theorem kq_eK16 : ∀ e ∈ kq_k16, kq_pK 16 e = true := kq_pieces 20 (by decide) (fun k hk => by
  have hk : 20 * k < 0 := hk
  omega)
theorem kq_eN0_0 : ((kq_l0.drop (16 * 0)).take 16).all (kq_pN 0) = true := by decide +kernel
theorem kq_eN0 : ∀ e ∈ kq_l0, kq_pN 0 e = true := kq_pieces 16 (by decide) (fun k hk => by
  have hk : 16 * k < 9 := hk
  rcases (show k = 0 by omega) with rfl
  · exact kq_eN0_0)
theorem kq_eN1_0 : ((kq_l1.drop (16 * 0)).take 16).all (kq_pN 1) = true := by decide +kernel
theorem kq_eN1 : ∀ e ∈ kq_l1, kq_pN 1 e = true := kq_pieces 16 (by decide) (fun k hk => by
  have hk : 16 * k < 13 := hk
  rcases (show k = 0 by omega) with rfl
  · exact kq_eN1_0)
theorem kq_eN2_0 : ((kq_l2.drop (16 * 0)).take 16).all (kq_pN 2) = true := by decide +kernel
theorem kq_eN2 : ∀ e ∈ kq_l2, kq_pN 2 e = true := kq_pieces 16 (by decide) (fun k hk => by
  have hk : 16 * k < 3 := hk
  rcases (show k = 0 by omega) with rfl
  · exact kq_eN2_0)
theorem kq_eN3_0 : ((kq_l3.drop (16 * 0)).take 16).all (kq_pN 3) = true := by decide +kernel
theorem kq_eN3 : ∀ e ∈ kq_l3, kq_pN 3 e = true := kq_pieces 16 (by decide) (fun k hk => by
  have hk : 16 * k < 13 := hk
  rcases (show k = 0 by omega) with rfl
  · exact kq_eN3_0)
theorem kq_eN4_0 : ((kq_l4.drop (16 * 0)).take 16).all (kq_pN 4) = true := by decide +kernel
theorem kq_eN4 : ∀ e ∈ kq_l4, kq_pN 4 e = true := kq_pieces 16 (by decide) (fun k hk => by
  have hk : 16 * k < 9 := hk
  rcases (show k = 0 by omega) with rfl
  · exact kq_eN4_0)
theorem kq_eN5_0 : ((kq_l5.drop (16 * 0)).take 16).all (kq_pN 5) = true := by decide +kernel
theorem kq_eN5 : ∀ e ∈ kq_l5, kq_pN 5 e = true := kq_pieces 16 (by decide) (fun k hk => by
  have hk : 16 * k < 1 := hk
  rcases (show k = 0 by omega) with rfl
  · exact kq_eN5_0)
theorem kq_eN6_0 : ((kq_l6.drop (16 * 0)).take 16).all (kq_pN 6) = true := by decide +kernel
theorem kq_eN6_1 : ((kq_l6.drop (16 * 1)).take 16).all (kq_pN 6) = true := by decide +kernel
theorem kq_eN6 : ∀ e ∈ kq_l6, kq_pN 6 e = true := kq_pieces 16 (by decide) (fun k hk => by
  have hk : 16 * k < 28 := hk
  rcases (show k = 0 ∨ k = 1 by omega) with rfl | rfl
  · exact kq_eN6_0
  · exact kq_eN6_1)
theorem kq_eN7_0 : ((kq_l7.drop (16 * 0)).take 16).all (kq_pN 7) = true := by decide +kernel
theorem kq_eN7 : ∀ e ∈ kq_l7, kq_pN 7 e = true := kq_pieces 16 (by decide) (fun k hk => by
  have hk : 16 * k < 1 := hk
  rcases (show k = 0 by omega) with rfl
  · exact kq_eN7_0)
theorem kq_eN8_0 : ((kq_l8.drop (16 * 0)).take 16).all (kq_pN 8) = true := by decide +kernel
theorem kq_eN8 : ∀ e ∈ kq_l8, kq_pN 8 e = true := kq_pieces 16 (by decide) (fun k hk => by
  have hk : 16 * k < 9 := hk
  rcases (show k = 0 by omega) with rfl
  · exact kq_eN8_0)
theorem kq_eN9_0 : ((kq_l9.drop (16 * 0)).take 16).all (kq_pN 9) = true := by decide +kernel
theorem kq_eN9 : ∀ e ∈ kq_l9, kq_pN 9 e = true := kq_pieces 16 (by decide) (fun k hk => by
  have hk : 16 * k < 12 := hk
  rcases (show k = 0 by omega) with rfl
  · exact kq_eN9_0)
theorem kq_eN10 : ∀ e ∈ kq_l10, kq_pN 10 e = true := kq_pieces 16 (by decide) (fun k hk => by
  have hk : 16 * k < 0 := hk
  omega)
theorem kq_eN11_0 : ((kq_l11.drop (16 * 0)).take 16).all (kq_pN 11) = true := by decide +kernel
theorem kq_eN11_1 : ((kq_l11.drop (16 * 1)).take 16).all (kq_pN 11) = true := by decide +kernel
theorem kq_eN11_2 : ((kq_l11.drop (16 * 2)).take 16).all (kq_pN 11) = true := by decide +kernel
theorem kq_eN11_3 : ((kq_l11.drop (16 * 3)).take 16).all (kq_pN 11) = true := by decide +kernel
theorem kq_eN11_4 : ((kq_l11.drop (16 * 4)).take 16).all (kq_pN 11) = true := by decide +kernel
theorem kq_eN11 : ∀ e ∈ kq_l11, kq_pN 11 e = true := kq_pieces 16 (by decide) (fun k hk => by
  have hk : 16 * k < 68 := hk
  rcases (show k = 0 ∨ k = 1 ∨ k = 2 ∨ k = 3 ∨ k = 4 by omega) with rfl | rfl | rfl | rfl | rfl
  · exact kq_eN11_0
  · exact kq_eN11_1
  · exact kq_eN11_2
  · exact kq_eN11_3
  · exact kq_eN11_4)
theorem kq_eN12_0 : ((kq_l12.drop (16 * 0)).take 16).all (kq_pN 12) = true := by decide +kernel
theorem kq_eN12_1 : ((kq_l12.drop (16 * 1)).take 16).all (kq_pN 12) = true := by decide +kernel
theorem kq_eN12_2 : ((kq_l12.drop (16 * 2)).take 16).all (kq_pN 12) = true := by decide +kernel
theorem kq_eN12_3 : ((kq_l12.drop (16 * 3)).take 16).all (kq_pN 12) = true := by decide +kernel
theorem kq_eN12_4 : ((kq_l12.drop (16 * 4)).take 16).all (kq_pN 12) = true := by decide +kernel
theorem kq_eN12_5 : ((kq_l12.drop (16 * 5)).take 16).all (kq_pN 12) = true := by decide +kernel
theorem kq_eN12 : ∀ e ∈ kq_l12, kq_pN 12 e = true := kq_pieces 16 (by decide) (fun k hk => by
  have hk : 16 * k < 94 := hk
  rcases (show k = 0 ∨ k = 1 ∨ k = 2 ∨ k = 3 ∨ k = 4 ∨ k = 5 by omega) with rfl | rfl | rfl | rfl | rfl | rfl
  · exact kq_eN12_0
  · exact kq_eN12_1
  · exact kq_eN12_2
  · exact kq_eN12_3
  · exact kq_eN12_4
  · exact kq_eN12_5)
theorem kq_eN13_0 : ((kq_l13.drop (16 * 0)).take 16).all (kq_pN 13) = true := by decide +kernel
theorem kq_eN13_1 : ((kq_l13.drop (16 * 1)).take 16).all (kq_pN 13) = true := by decide +kernel
theorem kq_eN13_2 : ((kq_l13.drop (16 * 2)).take 16).all (kq_pN 13) = true := by decide +kernel
theorem kq_eN13_3 : ((kq_l13.drop (16 * 3)).take 16).all (kq_pN 13) = true := by decide +kernel
theorem kq_eN13_4 : ((kq_l13.drop (16 * 4)).take 16).all (kq_pN 13) = true := by decide +kernel
theorem kq_eN13_5 : ((kq_l13.drop (16 * 5)).take 16).all (kq_pN 13) = true := by decide +kernel
theorem kq_eN13_6 : ((kq_l13.drop (16 * 6)).take 16).all (kq_pN 13) = true := by decide +kernel
theorem kq_eN13_7 : ((kq_l13.drop (16 * 7)).take 16).all (kq_pN 13) = true := by decide +kernel
theorem kq_eN13 : ∀ e ∈ kq_l13, kq_pN 13 e = true := kq_pieces 16 (by decide) (fun k hk => by
  have hk : 16 * k < 120 := hk
  rcases (show k = 0 ∨ k = 1 ∨ k = 2 ∨ k = 3 ∨ k = 4 ∨ k = 5 ∨ k = 6 ∨ k = 7 by omega) with rfl | rfl | rfl | rfl | rfl | rfl | rfl | rfl
  · exact kq_eN13_0
  · exact kq_eN13_1
  · exact kq_eN13_2
  · exact kq_eN13_3
  · exact kq_eN13_4
  · exact kq_eN13_5
  · exact kq_eN13_6
  · exact kq_eN13_7)
theorem kq_eN14 : ∀ e ∈ kq_l14, kq_pN 14 e = true := kq_pieces 16 (by decide) (fun k hk => by
  have hk : 16 * k < 0 := hk
  omega)
theorem kq_eN15 : ∀ e ∈ kq_l15, kq_pN 15 e = true := kq_pieces 16 (by decide) (fun k hk => by
  have hk : 16 * k < 0 := hk
  omega)
theorem kq_eN16 : ∀ e ∈ kq_l16, kq_pN 16 e = true := kq_pieces 16 (by decide) (fun k hk => by
  have hk : 16 * k < 0 := hk
  omega)
