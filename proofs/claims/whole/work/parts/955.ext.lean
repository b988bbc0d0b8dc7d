/-! ===== what lies beside the store: the texts, the weights, the script ===== -/
section KX
def kx_r (i : Nat) : Nat := [52, 115, 123, 127, 131, 133, 139, 68, 141, 143, 145, 73, 78, 165, 167, 169, 83, 88, 93, 98, 103].getD i 0
def kx_m (i : Nat) : Nat := [189, 191, 197, 199, 201, 203, 205, 229, 207, 209, 211, 231, 233, 213, 215, 217, 235, 236, 238, 240, 242].getD i 0
def kx_p (i : Nat) : Nat := [43, 53, 61, 71, 80, 86, 93, 100, 107, 115, 121, 129, 139, 149, 157, 166, 174, 182, 189, 198, 206].getD i 0
def kx_q (i : Nat) : Nat := [226, 235, 246, 256, 263, 271, 279, 287, 365, 372, 381, 298, 309, 390, 400, 409, 318, 326, 336, 345, 356].getD i 0
def kx_len (i : Nat) : Nat := (kq_str.getD i []).length
def kx_ch (i j : Nat) : Int32 := (kq_str.getD i []).getD j 0
def kx_w (j : Nat) : Int32 := [6561, 729, 81, 9, 1].getD j 0
def kx_sR (i : Nat) : Term := .string "LevelSunday$Reader" (kx_r i)
def kx_sM (i : Nat) : Term := .string "LevelSundayModel" (kx_m i)
def kx_wt : Term := .static "LevelSunday$BookSearch" "WEIGHT" "[I"
def kx_fl : List Cond := flatC (Cond.and given_1 narrow_1)
def kx_ok1 (i : Nat) : Bool := decide (kx_fl[kx_p i]? = some (Cond.exactly (kx_sR i) "java/lang/String")) && decide (kx_fl[kx_p i + 1]? = some (Cond.eq (.field (kx_sR i) "java/lang/String" "coder" "B") (.int 0))) && decide (kx_fl[kx_p i + 2]? = some (Cond.arrayOf (.field (kx_sR i) "java/lang/String" "value" "[B") .byte)) && decide (kx_fl[kx_p i + 3]? = some (Cond.eq (.length (.field (kx_sR i) "java/lang/String" "value" "[B")) (.int (Int32.ofNat (kx_len i))))) && (List.range (kx_len i)).all (fun j => decide (kx_fl[kx_p i + 4 + j]? = some (Cond.eq (.elem (.field (kx_sR i) "java/lang/String" "value" "[B") (.int (Int32.ofNat j))) (.int (kx_ch i j))))) && decide (kx_fl[kx_q i]? = some (Cond.eq (kx_sR i) (kx_sM i)))
theorem kx_chk1 : (List.range 21).all kx_ok1 = true := by decide +kernel
theorem kx_spec {i : Nat} (hi : i < 21) : Cond.exactly (kx_sR i) "java/lang/String" ∈ kx_fl ∧ Cond.eq (.field (kx_sR i) "java/lang/String" "coder" "B") (.int 0) ∈ kx_fl ∧ Cond.arrayOf (.field (kx_sR i) "java/lang/String" "value" "[B") .byte ∈ kx_fl ∧ Cond.eq (.length (.field (kx_sR i) "java/lang/String" "value" "[B")) (.int (Int32.ofNat (kx_len i))) ∈ kx_fl ∧ (∀ j, j < kx_len i → Cond.eq (.elem (.field (kx_sR i) "java/lang/String" "value" "[B") (.int (Int32.ofNat j))) (.int (kx_ch i j)) ∈ kx_fl) ∧ Cond.eq (kx_sR i) (kx_sM i) ∈ kx_fl := by
  have h := List.all_eq_true.mp kx_chk1 i (List.mem_range.mpr hi)
  unfold kx_ok1 at h
  simp only [Bool.and_eq_true] at h
  obtain ⟨⟨⟨⟨⟨h1, h2⟩, h3⟩, h4⟩, h5⟩, h6⟩ := h
  exact ⟨List.mem_of_getElem? (of_decide_eq_true h1), List.mem_of_getElem? (of_decide_eq_true h2), List.mem_of_getElem? (of_decide_eq_true h3), List.mem_of_getElem? (of_decide_eq_true h4), fun j hj => List.mem_of_getElem? (of_decide_eq_true (List.all_eq_true.mp h5 j (List.mem_range.mpr hj))), List.mem_of_getElem? (of_decide_eq_true h6)⟩
theorem kx_z : Cond.eq (.static "java/lang/String" "COMPACT_STRINGS" "Z") (.int 1) ∈ kx_fl := List.mem_of_getElem? (i := 4) (by decide +kernel)
theorem kx_s : Cond.isRef (.static "jdk/internal/util/Preconditions" "SIOOBE_FORMATTER" "Ljava/util/function/BiFunction;") ∈ kx_fl := List.mem_of_getElem? (i := 5) (by decide +kernel)
theorem kx_w0 : Cond.arrayOf kx_wt .int ∈ kx_fl := List.mem_of_getElem? (i := 10) (by decide +kernel)
theorem kx_w1 : Cond.eq (.length kx_wt) (.int 5) ∈ kx_fl := List.mem_of_getElem? (i := 11) (by decide +kernel)
theorem kx_w2 : (List.range 5).all (fun j => decide (kx_fl[12 + j]? = some (Cond.eq (.elem kx_wt (.int (Int32.ofNat j))) (.int (kx_w j))))) = true := by decide +kernel
/-- the places of the texts in both classes' tables -/
def kx_sr (c : Nat) (e : Nat × Value × Nat) : Bool := match e.2.1 with
  | .ref k => (match kq_at e.2.2 with
    | some (Cond.stringRef o i t) => decide (o = kq_cn c) && Nat.beq i e.1
    | _ => false) && Nat.ble 1000 k && Nat.blt k 1021 && ((decide (kq_cn c = "LevelSunday$Reader") && Nat.beq e.1 (kx_r (k - 1000))) || (decide (kq_cn c = "LevelSundayModel") && Nat.beq e.1 (kx_m (k - 1000))))
  | _ => true
theorem kx_chk2 : (List.range 18).all (fun c => (kq_kL c).all (kx_sr c)) = true := by decide +kernel
theorem kx_k18 {c : Nat} (hc : 18 ≤ c) : kq_kL c = [] := by
  have e : ∀ n, n ≤ c → Nat.blt c n = false := fun n hn => by
    cases h : Nat.blt c n
    · rfl
    · have := Nat.le_of_ble_eq_true h
      omega
  unfold kq_kL
  rw [e 9 (by omega), e 13 (by omega), e 15 (by omega), e 16 (by omega), e 17 (by omega)]
  rfl
def kx_E (base : Nat) (ad adV : Nat → Nat) (L : Nat) (xs : Nat → Int32) (U : State) : Prop :=
  (∀ i, i < 21 → va_O "java/lang/String" (ad (1000 + i)) (mx_A base) U U.heap ∧ va_OF "java/lang/String" "coder" "B" (.int 0) (ad (1000 + i)) (mx_A base) U U.heap ∧ va_OF "java/lang/String" "value" "[B" (.ref (adV i)) (ad (1000 + i)) (mx_A base) U U.heap ∧ va_T .byte (adV i) (kx_len i) (fun j => .int (kx_ch i j)) (mx_A base) U U.heap) ∧
  (∀ (c : Nat) (e : Nat × Value × Nat) (k : Nat), e ∈ kq_kL c → e.2.1 = .ref k → ∃ tx, vk_R (kq_cn c) e.1 tx (ad k) U) ∧
  va_Z "java/lang/String" "COMPACT_STRINGS" "Z" (.int 1) (mx_A base) U U.heap ∧
  va_Zq "jdk/internal/util/Preconditions" "SIOOBE_FORMATTER" "Ljava/util/function/BiFunction;" (mx_A base) U U.heap ∧
  (va_Z "LevelSunday$BookSearch" "WEIGHT" "[I" (.ref (ad 2000)) (mx_A base) U U.heap ∧ va_T .int (ad 2000) 5 (fun j => .int (kx_w j)) (mx_A base) U U.heap) ∧
  va_T .int (ad 2001) L (fun j => .int (xs j)) (mx_A base) U U.heap
variable {base : Nat} {ad adV : Nat → Nat} {L : Nat} {xs : Nat → Int32}
theorem kx_okE : mx_okE base (kx_E base ad adV L xs) := by
  have key : ∀ s U : State, s.vm.Alike U.vm → (∀ a : Nat, a < s.heap.size → ¬ mx_A base a → U.heap[a]? = s.heap[a]?) → (∀ (own : String) (idx : Nat) (tx : String) (a : Nat), vk_R own idx tx a s → vk_R own idx tx a U) → kx_E base ad adV L xs s → kx_E base ad adV L xs U := by
    intro s U hv hh hr ⟨h1, h2, h3, h4, ⟨h5, h6⟩, h7⟩
    refine ⟨fun i hi => ?_, fun c e k he hk => ?_, (va_Z.moved hv h3).kept hh, (va_Zq.moved hv h4).kept hh, ⟨(va_Z.moved hv h5).kept hh, (va_T.moved hv h6).kept hh⟩, (va_T.moved hv h7).kept hh⟩
    · obtain ⟨q1, q2, q3, q4⟩ := h1 i hi
      exact ⟨(va_O.moved hv q1).kept hh, (va_OF.moved hv q2).kept hh, (va_OF.moved hv q3).kept hh, (va_T.moved hv q4).kept hh⟩
    · obtain ⟨tx, ht⟩ := h2 c e k he hk
      exact ⟨tx, hr _ _ _ _ ht⟩
  refine ⟨fun s U hE hW hh => key s U hW.alike hh (fun _ _ _ _ h => vk_R.warm hW h) hE, fun s U hv hp hE => key s U (by rw [hv]; exact Vm.Alike.refl _) (fun a _ _ => by rw [hp]) (fun _ _ _ _ h => vk_R.same hv h) hE⟩
theorem kx_okK {y : Nat} {q : kq_Ty} (h : kq_m y = some q) : mx_okK kq_ko ad kq_GW (kx_E base ad adV L xs) y q.1.cls := by
  intro idx v hf
  unfold kq_ko at hf
  split at hf
  case h_2 => cases hf
  rename_i e he
  simp only [Option.some.injEq] at hf
  subst hf
  have hm := mx_look_mem _ _ _ he
  rcases (kq_own h).2.2 with ⟨hc, hn⟩ | hc
  · have hp := kq_eKa _ hc _ hm
    unfold kq_pK at hp
    obtain ⟨w, pl⟩ := e
    cases w with
    | int x =>
      dsimp only at hp ⊢
      rw [hn]
      exact kq_at_in (of_decide_eq_true hp) rfl
    | long x =>
      dsimp only at hp ⊢
      rw [hn]
      exact kq_at_in (of_decide_eq_true hp) rfl
    | ref k =>
      dsimp only
      intro s hE
      rw [hn]
      exact hE.2.1 (kq_cz y) (idx, .ref k, pl) k hm rfl
    | _ => trivial
  · rw [hc] at hm
    cases hm
theorem kx_okG {y : Nat} {q : kq_Ty} (h : kq_m y = some q) : mx_okG kq_gs ad base kq_GW (kx_E base ad adV L xs) y q.1.cls := by
  intro idx k hf s hE
  unfold kq_gs at hf
  cases hb : (Nat.beq (kq_cz y) 0 && Nat.beq idx 72) with
  | false =>
    rw [hb] at hf
    cases hf
  | true =>
    rw [hb] at hf
    cases hf
    rw [Bool.and_eq_true] at hb
    have e1 := Nat.eq_of_beq_eq_true hb.1
    have e2 := Nat.eq_of_beq_eq_true hb.2
    rcases (kq_own h).2.2 with ⟨hc, hn⟩ | hc
    · rw [hn, e1, e2]
      exact ⟨"LevelSunday$BookSearch", "WEIGHT", "[I", hE.2.2.2.2.1.1, kq_wgt⟩
    · omega
theorem kx_okX : mx_okX (kq_ext L xs) ad base (kx_E base ad adV L xs) := by
  intro k n f hf s hE
  unfold kq_ext at hf
  cases h1 : Nat.beq k 2000 with
  | true =>
    rw [h1] at hf
    cases hf
    rw [Nat.eq_of_beq_eq_true h1]
    exact hE.2.2.2.2.1.2
  | false =>
    rw [h1] at hf
    cases h2 : Nat.beq k 2001 with
    | true =>
      rw [h2] at hf
      cases hf
      rw [Nat.eq_of_beq_eq_true h2]
      exact hE.2.2.2.2.2
    | false =>
      rw [h2] at hf
      cases hf
theorem kx_okM : mx_okM kq_cd kq_mt kq_fl kq_ko kq_gs kq_ck ad base kq_GW kq_cl (kx_E base ad adV L xs) := by
  intro y nm bs mL ret hmt
  unfold kq_mt at hmt
  obtain ⟨q, hq, e⟩ := Option.map_eq_some_iff.mp hmt
  cases e
  obtain ⟨h1, h2, -⟩ := kq_own hq
  exact ⟨h1, h2, kq_okCd hq, kq_okF hq, kx_okK hq, kx_okG hq, kq_okA hq⟩
def kx_okl (k : Nat) : Bool := match kq_lay k with
  | some (.inl (t, _)) => Nat.blt t 4
  | some (.inr (.inl (t, _))) => Nat.beq t 4 || Nat.beq t 5
  | _ => true
theorem kx_chk3 : (List.range 141).all kx_okl = true := by decide +kernel
theorem kx_lay_lt {k : Nat} {sh : mx_Sh} (h : kq_lay k = some sh) : k < 141 := by
  unfold kq_lay at h
  cases hb : Nat.blt k 141 with
  | true => exact Nat.le_of_ble_eq_true hb
  | false =>
    rw [hb] at h
    cases h
theorem kx_okL (cid : Nat → ClassId) : mx_okL kq_lay 141 cid (al_tys cid) := by
  refine ⟨fun k sh h => kx_lay_lt h, fun k t n h => ?_, fun k t rs h => ?_, rfl, rfl, rfl, rfl⟩
  · have := List.all_eq_true.mp kx_chk3 k (List.mem_range.mpr (kx_lay_lt h))
    unfold kx_okl at this
    rw [h] at this
    exact Nat.le_of_ble_eq_true this
  · have := List.all_eq_true.mp kx_chk3 k (List.mem_range.mpr (kx_lay_lt h))
    unfold kx_okl at this
    rw [h] at this
    dsimp only at this
    rw [Bool.or_eq_true] at this
    rcases this with e | e
    · rw [Nat.eq_of_beq_eq_true e]
      exact ⟨_, rfl⟩
    · rw [Nat.eq_of_beq_eq_true e]
      exact ⟨_, rfl⟩
/-- at the law's entry -/
theorem kx_start {s : State} {b : Nat} (hts : ∀ w ∈ lw_tbl, w.before #[Value.ref b] s = true) (hgv : (Cond.and given_1 narrow_1).before #[Value.ref b] s = true) (hX : va_X b L xs s s.heap) (hbl : b < s.heap.size) : ∃ (adK adV : Nat → Nat) (t : Nat), ∀ ad : Nat → Nat, (∀ i, i < 21 → ad (1000 + i) = adK i) → ad 2000 = t → ad 2001 = b → kx_E s.heap.size ad adV L xs s := by
  have hf : ∀ w ∈ kx_fl, w.before #[Value.ref b] s = true := flat_of_before _ hgv
  have hA : ∀ a : Nat, a < s.heap.size → ¬ mx_A s.heap.size a := fun a h q => Nat.not_le.mpr h q
  have hw : ∀ (p : Nat) (w : Cond), kq_at p = some w → w.before #[Value.ref b] s = true := fun p w h => hts w (kq_tab_in _ w (List.mem_of_getElem? h))
  -- the texts
  have h0 : ∀ i : Nat, ∃ q : Nat × Nat, i < 21 → (kx_sR i).eval #[Value.ref b] s none [] s = some (.ref q.1) ∧ va_O "java/lang/String" q.1 (mx_A s.heap.size) s s.heap ∧ va_OF "java/lang/String" "coder" "B" (.int 0) q.1 (mx_A s.heap.size) s s.heap ∧ va_OF "java/lang/String" "value" "[B" (.ref q.2) q.1 (mx_A s.heap.size) s s.heap ∧ va_T .byte q.2 (kx_len i) (fun j => .int (kx_ch i j)) (mx_A s.heap.size) s s.heap := by
    intro i
    by_cases hi : i < 21
    · obtain ⟨c1, c2, c3, c4, c5, -⟩ := kx_spec hi
      have hl : kx_len i < 2 ^ 31 := by
        have : ∀ i, i < 21 → kx_len i < 100 := by decide +kernel
        have := this i hi
        omega
      obtain ⟨adK, adV, ⟨h1, -⟩, h2⟩ := vk_Sof (args := #[Value.ref b]) (s := s) (N := 1) (tm := fun _ => kx_sR i) (len := [kx_len i]) (byt := [kq_str.getD i []]) (A := mx_A s.heap.size) (fun j hj => by
          obtain rfl : j = 0 := by omega
          exact hl) (fun j hj => hf _ c1) (fun j hj => hf _ c2) (fun j hj => hf _ c3) (fun j hj => by
          obtain rfl : j = 0 := by omega
          exact hf _ c4) (fun j hj k hk => by
          obtain rfl : j = 0 := by omega
          exact hf _ (c5 k hk)) (fun i j hi hj hij => absurd (by omega) hij) hA
      obtain ⟨q1, q2, q3, q4⟩ := h1 0 (by decide)
      exact ⟨(adK 0, adV 0), fun _ => ⟨h2 0 (by decide), q1, q2, q3, q4⟩⟩
    · exact ⟨(0, 0), fun h => absurd h hi⟩
  obtain ⟨ad0, had⟩ := Classical.axiomOfChoice h0
  obtain ⟨t, t1, t2⟩ := va_Tof (tm := kx_wt) (N := 5) (f := fun j => .int (kx_w j)) (A := mx_A s.heap.size) (by decide) (hf _ kx_w0) (va_eqt (hf _ kx_w1)) (fun j hj => va_eqt (hf _ (List.mem_of_getElem? (of_decide_eq_true (List.all_eq_true.mp kx_w2 j (List.mem_range.mpr hj)))))) hA
  refine ⟨fun i => (ad0 i).1, fun i => (ad0 i).2, t, fun ad a1 a2 a3 => ⟨fun i hi => ?_, fun c e k he hk => ?_, ?_, ?_, ⟨?_, ?_⟩, ?_⟩⟩
  · rw [a1 i hi]
    exact (had i hi).2
  · by_cases hc : c < 18
    · have h := List.all_eq_true.mp (List.all_eq_true.mp kx_chk2 c (List.mem_range.mpr hc)) e he
      unfold kx_sr at h
      rw [hk] at h
      simp only [Bool.and_eq_true, Bool.or_eq_true] at h
      obtain ⟨⟨⟨h1, h2⟩, h3⟩, h4⟩ := h
      split at h1
      case h_2 => cases h1
      rename_i o i tx hat
      simp only [Bool.and_eq_true] at h1
      have e1 : o = kq_cn c := of_decide_eq_true h1.1
      have e2 := Nat.eq_of_beq_eq_true h1.2
      have k1 := Nat.le_of_ble_eq_true h2
      have k2 : k + 1 ≤ 1021 := Nat.le_of_ble_eq_true h3
      subst e1
      subst e2
      have hi : k - 1000 < 21 := by omega
      have ek : ad k = (ad0 (k - 1000)).1 := by
        have := a1 (k - 1000) hi
        rw [show 1000 + (k - 1000) = k by omega] at this
        exact this
      refine ⟨tx, vk_R.of (hw _ _ hat) ?_⟩
      rw [ek]
      have hR := (had (k - 1000) hi).1
      rcases h4 with ⟨g1, g2⟩ | ⟨g1, g2⟩
      · rw [of_decide_eq_true g1, Nat.eq_of_beq_eq_true g2]
        exact hR
      · rw [of_decide_eq_true g1, Nat.eq_of_beq_eq_true g2]
        exact va_eqR (hf _ (kx_spec hi).2.2.2.2.2) hR
    · rw [kx_k18 (by omega)] at he
      cases he
  · exact va_Zof (hw 3036 _ (by decide +kernel)) (hw 1016 _ (by decide +kernel)) (va_eqi (hf _ kx_z)) hA
  · exact va_Zqof (hw 3052 _ (by decide +kernel)) (hw 1018 _ (by decide +kernel)) (hf _ kx_s) hA
  · rw [a2]
    exact va_Zof (hw 5003 _ (by decide +kernel)) (hw 1009 _ (by decide +kernel)) t1 hA
  · rw [a2]
    exact t2
  · rw [a3]
    obtain ⟨scr, q1, q2, q3, q4, q5⟩ := hX
    exact ⟨scr, q1, q2, q3, by omega, by rw [q4], q5, hA _ hbl⟩
end KX
