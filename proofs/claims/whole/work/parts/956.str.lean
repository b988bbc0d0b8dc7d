/-! ===== length and charAt of the texts: the JDK's own methods, walked ===== -/
section JS
variable {base : Nat} {ad adV : Nat → Nat} {L : Nat} {xs : Nat → Int32} {cid : Nat → ClassId} {Dg : va_G} {l : Launch} {D : mx_D} {E : mx_E}
theorem kx_shr : ∀ i, i < 21 → Int32.ofNat (kx_len i) >>> ((0 : Int32) &&& 31) = Int32.ofNat (kx_len i) := by decide +kernel
theorem kx_l100 : ∀ i, i < 21 → kx_len i < 100 := by decide +kernel
theorem kx_chr : ∀ i, i < 21 → ∀ j, j < kx_len i → ((kx_ch i j &&& 255).toUInt32 % 65536).toInt32 = kx_ch i j ∧ narrow .char (.int (kx_ch i j)) = .int (kx_ch i j) := by decide +kernel
def js_W (base : Nat) (ad adV : Nat → Nat) (L : Nat) (xs : Nat → Int32) (cid : Nat → ClassId) (Dg : va_G) (D : mx_D) (E : mx_E) : State → Prop := mx_Wd base ad cid kq_lay 141 Dg kq_cl (al_tys cid) (kx_E base ad adV L xs) D E
def js_Q (base : Nat) (ad adV : Nat → Nat) (L : Nat) (xs : Nat → Int32) (cid : Nat → ClassId) (Dg : va_G) (D : mx_D) (E : mx_E) (v : Option Value) : Array Value → State → Outcome → State → Prop := mx_Q base ad cid kq_lay 141 Dg kq_cl (al_tys cid) (kx_E base ad adV L xs) v D E
def js_M (base : Nat) (ad adV : Nat → Nat) (L : Nat) (xs : Nat → Int32) (cid : Nat → ClassId) (Dg : va_G) (l : Launch) (D : mx_D) (E : mx_E) (nm : MethodName) (bs : ByteArray) (mL : Nat) (ret : Option FieldType) (d : Nat) (as : List Value) (v : Option Value) : Prop :=
  Met l nm (Cond.code nm bs mL ret :: kq_GW) (mx_rm d) (va_Pc as (js_W base ad adV L xs cid Dg D E)) (js_Q base ad adV L xs cid Dg D E v) 0 0 (mx_A base)
theorem js_in {s U : State} {H : Heap} {locs : List Loc} (hV : js_W base ad adV L xs cid Dg D E s) (hP : va_P Dg kq_cl (mx_wl ad cid kq_lay 141 D E) H) (hS : va_S (mx_A base) s.heap H locs) (hU : U.heap = H) (hW : s.WarmedH U.vm) : js_W base ad adV L xs cid Dg D E U := by
  obtain ⟨h1, h2, h3, h4, h5⟩ := hV
  exact ⟨by rw [hU]; exact Nat.le_trans h1 hS.1, by rw [hU]; exact hP, va_K.moved hW.alike h3, h4, kx_okE.1 s U h5 hW (fun a q1 q2 => by rw [hU]; exact hS.2.1 a q1 q2)⟩
theorem js_out {s t : State} {H : Heap} {locs : List Loc} {args : Array Value} {v : Option Value} (hV : js_W base ad adV L xs cid Dg D E s) (hP : va_P Dg kq_cl (mx_wl ad cid kq_lay 141 D E) H) (hS : va_S (mx_A base) s.heap H locs) (ht : t.heap = H) (hW : s.WarmedH t.vm) (hv : v.map (mx_av ad) = v) : js_Q base ad adV L xs cid Dg D E v args s (.returned v) t :=
  ⟨by rw [hv], js_in hV hP hS ht hW, hS.F ht⟩
theorem js_recv {s : State} {H : Heap} {locs : List Loc} (hV : js_W base ad adV L xs cid Dg D E s) (hS : va_S (mx_A base) s.heap H locs) {i : Nat} (hi : i < 21) : ∃ cellB : Cell, H[ad (1000 + i)]? = some cellB ∧ cellB.vm.isStatics = false ∧ s.vm.findClass "java/lang/String" = some cellB.cls := by
  obtain ⟨cell, h1, h2, h3, -⟩ := (hV.2.2.2.2.1 i hi).1.kept hS.2.1
  exact ⟨cell, h1, h2, h3⟩
theorem js_room (d mL : Nat) (h : mL ≤ 3) : 8 + (mL + 11) + 64 * d ≤ 64 * (d + 1) := by omega
theorem jd_coder_0 : decode prog_17_method_152_code 0 = .ok (.getstatic 38, 3) := by decide +kernel
theorem jd_coder_3 : decode prog_17_method_152_code 3 = .ok (.ifCond .eq 10, 3) := by decide +kernel
theorem jd_coder_6 : decode prog_17_method_152_code 6 = .ok (.aload_n 0, 1) := by decide +kernel
theorem jd_coder_7 : decode prog_17_method_152_code 7 = .ok (.getfield 15, 3) := by decide +kernel
theorem jd_coder_10 : decode prog_17_method_152_code 10 = .ok (.goto 4, 3) := by decide +kernel
theorem jd_coder_14 : decode prog_17_method_152_code 14 = .ok (.ireturn, 1) := by decide +kernel
theorem jd_isLatin1_0 : decode prog_17_method_154_code 0 = .ok (.getstatic 38, 3) := by decide +kernel
theorem jd_isLatin1_3 : decode prog_17_method_154_code 3 = .ok (.ifCond .eq 14, 3) := by decide +kernel
theorem jd_isLatin1_6 : decode prog_17_method_154_code 6 = .ok (.aload_n 0, 1) := by decide +kernel
theorem jd_isLatin1_7 : decode prog_17_method_154_code 7 = .ok (.getfield 15, 3) := by decide +kernel
theorem jd_isLatin1_10 : decode prog_17_method_154_code 10 = .ok (.ifCond .ne 7, 3) := by decide +kernel
theorem jd_isLatin1_13 : decode prog_17_method_154_code 13 = .ok (.iconst 1, 1) := by decide +kernel
theorem jd_isLatin1_14 : decode prog_17_method_154_code 14 = .ok (.goto 4, 3) := by decide +kernel
theorem jd_isLatin1_18 : decode prog_17_method_154_code 18 = .ok (.ireturn, 1) := by decide +kernel
theorem jd_length_0 : decode prog_17_method_54_code 0 = .ok (.aload_n 0, 1) := by decide +kernel
theorem jd_length_1 : decode prog_17_method_54_code 1 = .ok (.getfield 9, 3) := by decide +kernel
theorem jd_length_4 : decode prog_17_method_54_code 4 = .ok (.arraylength, 1) := by decide +kernel
theorem jd_length_5 : decode prog_17_method_54_code 5 = .ok (.aload_n 0, 1) := by decide +kernel
theorem jd_length_6 : decode prog_17_method_54_code 6 = .ok (.invokevirtual 335, 3) := by decide +kernel
theorem jd_length_9 : decode prog_17_method_54_code 9 = .ok (.ishr, 1) := by decide +kernel
theorem jd_length_10 : decode prog_17_method_54_code 10 = .ok (.ireturn, 1) := by decide +kernel
theorem jd_charAt_0 : decode prog_17_method_56_code 0 = .ok (.aload_n 0, 1) := by decide +kernel
theorem jd_charAt_1 : decode prog_17_method_56_code 1 = .ok (.invokevirtual 492, 3) := by decide +kernel
theorem jd_charAt_4 : decode prog_17_method_56_code 4 = .ok (.ifCond .eq 12, 3) := by decide +kernel
theorem jd_charAt_7 : decode prog_17_method_56_code 7 = .ok (.aload_n 0, 1) := by decide +kernel
theorem jd_charAt_8 : decode prog_17_method_56_code 8 = .ok (.getfield 9, 3) := by decide +kernel
theorem jd_charAt_11 : decode prog_17_method_56_code 11 = .ok (.iload_n 1, 1) := by decide +kernel
theorem jd_charAt_12 : decode prog_17_method_56_code 12 = .ok (.invokestatic 495, 3) := by decide +kernel
theorem jd_charAt_15 : decode prog_17_method_56_code 15 = .ok (.ireturn, 1) := by decide +kernel
theorem jd_chk_0 : decode prog_17_method_155_code 0 = .ok (.iload_n 0, 1) := by decide +kernel
theorem jd_chk_1 : decode prog_17_method_155_code 1 = .ok (.iload_n 1, 1) := by decide +kernel
theorem jd_chk_2 : decode prog_17_method_155_code 2 = .ok (.getstatic 1053, 3) := by decide +kernel
theorem jd_chk_5 : decode prog_17_method_155_code 5 = .ok (.invokestatic 1059, 3) := by decide +kernel
theorem jd_chk_8 : decode prog_17_method_155_code 8 = .ok (.pop, 1) := by decide +kernel
theorem jd_chk_9 : decode prog_17_method_155_code 9 = .ok (.return_, 1) := by decide +kernel
theorem jd_lat_0 : decode prog_18_method_2_code 0 = .ok (.iload_n 1, 1) := by decide +kernel
theorem jd_lat_1 : decode prog_18_method_2_code 1 = .ok (.aload_n 0, 1) := by decide +kernel
theorem jd_lat_2 : decode prog_18_method_2_code 2 = .ok (.arraylength, 1) := by decide +kernel
theorem jd_lat_3 : decode prog_18_method_2_code 3 = .ok (.invokestatic 9, 3) := by decide +kernel
theorem jd_lat_6 : decode prog_18_method_2_code 6 = .ok (.aload_n 0, 1) := by decide +kernel
theorem jd_lat_7 : decode prog_18_method_2_code 7 = .ok (.iload_n 1, 1) := by decide +kernel
theorem jd_lat_8 : decode prog_18_method_2_code 8 = .ok (.baload, 1) := by decide +kernel
theorem jd_lat_9 : decode prog_18_method_2_code 9 = .ok (.sipush 255, 3) := by decide +kernel
theorem jd_lat_12 : decode prog_18_method_2_code 12 = .ok (.iand, 1) := by decide +kernel
theorem jd_lat_13 : decode prog_18_method_2_code 13 = .ok (.i2c, 1) := by decide +kernel
theorem jd_lat_14 : decode prog_18_method_2_code 14 = .ok (.ireturn, 1) := by decide +kernel
theorem jd_pre_0 : decode prog_22_method_11_code 0 = .ok (.iload_n 0, 1) := by decide +kernel
theorem jd_pre_1 : decode prog_22_method_11_code 1 = .ok (.ifCond .lt 8, 3) := by decide +kernel
theorem jd_pre_4 : decode prog_22_method_11_code 4 = .ok (.iload_n 0, 1) := by decide +kernel
theorem jd_pre_5 : decode prog_22_method_11_code 5 = .ok (.iload_n 1, 1) := by decide +kernel
theorem jd_pre_6 : decode prog_22_method_11_code 6 = .ok (.if_icmp .lt 10, 3) := by decide +kernel
theorem jd_pre_16 : decode prog_22_method_11_code 16 = .ok (.iload_n 0, 1) := by decide +kernel
theorem jd_pre_17 : decode prog_22_method_11_code 17 = .ok (.ireturn, 1) := by decide +kernel
theorem js_coder {i : Nat} (hi : i < 21) (d : Nat) : js_M base ad adV L xs cid Dg l D E ⟨"java/lang/String", "coder", "()B"⟩ prog_17_method_152_code 1 (some .byte) d [.ref (ad (1000 + i))] (some (.int 0)) := by
  refine Met.ofW (cc := prog_17_method_152_code) (maxL := 1) (ret := (some .byte)) (by decide) rfl ?_
  intro p e s m args below meth c s₁ B hml hv
  obtain ⟨rfl, hV⟩ := hv
  have hts := atoms_spec (ws := Cond.code ⟨"java/lang/String", "coder", "()B"⟩ prog_17_method_152_code 1 (some .byte) :: kq_GW) B.pre
  have htg : ∀ w ∈ kq_GW, w.before _ s = true := fun w hw => hts w (List.mem_cons_of_mem _ hw)
  have hown : s.vm.findClass "java/lang/String" = some m.cls := findClass_of_methodNamed B.named
  have hx := B.exec
  have hb := B.bytes
  have hr := B.returns
  have hlk := B.notSynchronized
  have hP := hV.2.1
  have hE := hV.2.2.2.2
  have hS : va_S (mx_A base) s.heap s.heap [] := va_S.rf
  have hl := lv_entry ([.ref (ad (1000 + i))]) (n := 1) (Nat.le_of_ble_eq_true rfl)
  rw [lg_entry_eq]
  generalize (lg_sl ([.ref (ad (1000 + i))]) ++ List.replicate (1 - (lg_sl ([.ref (ad (1000 + i))])).length) Slot.unset).toArray = ls at hl ⊢
  have hl : lv_has ls 1 [(0, .ref (ad (1000 + i)))] := hl
  refine va_gets hx hb hE.2.2.1 hS hown (htg _ (kq_at_in (p := 3035) (by decide +kernel) rfl)) (fun _ h => h) jd_coder_0 ?_
  refine lv_if_eq (tgt := 13) hx hb jd_coder_3 (by decide) (fun c => absurd c (by decide)) (fun _ => ?_)
  refine lv_aload_n hx hb jd_coder_6 rfl (lv_at hl 0 rfl) ?_
  refine vk_getf hx hb (hE.1 i hi).2.1 hS hown (htg _ (kq_at_in (p := 9115) (by decide +kernel) rfl)) (fun _ h => h) jd_coder_7 ?_
  refine lv_goto (tgt := 14) hx hb jd_coder_10 (by decide) ?_
  exact W.zret (ty := .byte) hx hb hr (by decide) (fun t ht hW => js_out hV hP hS ht hW rfl) hS.2.2 jd_coder_14
theorem js_latin {i : Nat} (hi : i < 21) (d : Nat) : js_M base ad adV L xs cid Dg l D E ⟨"java/lang/String", "isLatin1", "()Z"⟩ prog_17_method_154_code 1 (some .boolean) d [.ref (ad (1000 + i))] (some (.int 1)) := by
  refine Met.ofW (cc := prog_17_method_154_code) (maxL := 1) (ret := (some .boolean)) (by decide) rfl ?_
  intro p e s m args below meth c s₁ B hml hv
  obtain ⟨rfl, hV⟩ := hv
  have hts := atoms_spec (ws := Cond.code ⟨"java/lang/String", "isLatin1", "()Z"⟩ prog_17_method_154_code 1 (some .boolean) :: kq_GW) B.pre
  have htg : ∀ w ∈ kq_GW, w.before _ s = true := fun w hw => hts w (List.mem_cons_of_mem _ hw)
  have hown : s.vm.findClass "java/lang/String" = some m.cls := findClass_of_methodNamed B.named
  have hx := B.exec
  have hb := B.bytes
  have hr := B.returns
  have hlk := B.notSynchronized
  have hP := hV.2.1
  have hE := hV.2.2.2.2
  have hS : va_S (mx_A base) s.heap s.heap [] := va_S.rf
  have hl := lv_entry ([.ref (ad (1000 + i))]) (n := 1) (Nat.le_of_ble_eq_true rfl)
  rw [lg_entry_eq]
  generalize (lg_sl ([.ref (ad (1000 + i))]) ++ List.replicate (1 - (lg_sl ([.ref (ad (1000 + i))])).length) Slot.unset).toArray = ls at hl ⊢
  have hl : lv_has ls 1 [(0, .ref (ad (1000 + i)))] := hl
  refine va_gets hx hb hE.2.2.1 hS hown (htg _ (kq_at_in (p := 3035) (by decide +kernel) rfl)) (fun _ h => h) jd_isLatin1_0 ?_
  refine lv_if_eq (tgt := 17) hx hb jd_isLatin1_3 (by decide) (fun c => absurd c (by decide)) (fun _ => ?_)
  refine lv_aload_n hx hb jd_isLatin1_6 rfl (lv_at hl 0 rfl) ?_
  refine vk_getf hx hb (hE.1 i hi).2.1 hS hown (htg _ (kq_at_in (p := 9115) (by decide +kernel) rfl)) (fun _ h => h) jd_isLatin1_7 ?_
  refine lv_if_ne (tgt := 17) hx hb jd_isLatin1_10 (by decide) (fun c => absurd rfl c) (fun _ => ?_)
  refine lv_iconst (v := 1) hx hb jd_isLatin1_13 (by decide) ?_
  refine lv_goto (tgt := 18) hx hb jd_isLatin1_14 (by decide) ?_
  exact W.zret (ty := .boolean) hx hb hr (by decide) (fun t ht hW => js_out hV hP hS ht hW rfl) hS.2.2 jd_isLatin1_18
theorem js_pre {j n : Int32} (h0 : ¬ j < 0) (h1 : j < n) {v : Value} (hv : v = .null ∨ ∃ t, v = .ref t) (d : Nat) : js_M base ad adV L xs cid Dg l D E ⟨"jdk/internal/util/Preconditions", "checkIndex", "(IILjava/util/function/BiFunction;)I"⟩ prog_22_method_11_code 3 (some .int) d [.int j, .int n, v] (some (.int j)) := by
  rcases hv with rfl | ⟨t, rfl⟩
  · refine Met.ofW (cc := prog_22_method_11_code) (maxL := 3) (ret := (some .int)) (by decide) rfl ?_
    intro p e s m args below meth c s₁ B hml hv
    obtain ⟨rfl, hV⟩ := hv
    have hts := atoms_spec (ws := Cond.code ⟨"jdk/internal/util/Preconditions", "checkIndex", "(IILjava/util/function/BiFunction;)I"⟩ prog_22_method_11_code 3 (some .int) :: kq_GW) B.pre
    have htg : ∀ w ∈ kq_GW, w.before _ s = true := fun w hw => hts w (List.mem_cons_of_mem _ hw)
    have hown : s.vm.findClass "jdk/internal/util/Preconditions" = some m.cls := findClass_of_methodNamed B.named
    have hx := B.exec
    have hb := B.bytes
    have hr := B.returns
    have hlk := B.notSynchronized
    have hP := hV.2.1
    have hE := hV.2.2.2.2
    have hS : va_S (mx_A base) s.heap s.heap [] := va_S.rf
    have hl := lv_entry ([.int j, .int n, .null]) (n := 3) (Nat.le_of_ble_eq_true rfl)
    rw [lg_entry_eq]
    generalize (lg_sl ([.int j, .int n, .null]) ++ List.replicate (3 - (lg_sl ([.int j, .int n, .null])).length) Slot.unset).toArray = ls at hl ⊢
    have hl : lv_has ls 3 [(0, .int j), (1, .int n), (2, .null)] := hl
    refine lv_iload_n hx hb jd_pre_0 rfl (lv_at hl 0 rfl) ?_
    refine lv_if_lt (tgt := 9) hx hb jd_pre_1 (by decide) (fun c => absurd c h0) (fun _ => ?_)
    refine lv_iload_n hx hb jd_pre_4 rfl (lv_at hl 0 rfl) ?_
    refine lv_iload_n hx hb jd_pre_5 rfl (lv_at hl 1 rfl) ?_
    refine lv_icmp_lt (tgt := 16) hx hb jd_pre_6 (by decide) (fun _ => ?_) (fun c => absurd h1 c)
    refine lv_iload_n hx hb jd_pre_16 rfl (lv_at hl 0 rfl) ?_
    exact W.iret hx hb hr (fun t ht hW => js_out hV hP hS ht hW rfl) hS.2.2 jd_pre_17
  · refine Met.ofW (cc := prog_22_method_11_code) (maxL := 3) (ret := (some .int)) (by decide) rfl ?_
    intro p e s m args below meth c s₁ B hml hv
    obtain ⟨rfl, hV⟩ := hv
    have hts := atoms_spec (ws := Cond.code ⟨"jdk/internal/util/Preconditions", "checkIndex", "(IILjava/util/function/BiFunction;)I"⟩ prog_22_method_11_code 3 (some .int) :: kq_GW) B.pre
    have htg : ∀ w ∈ kq_GW, w.before _ s = true := fun w hw => hts w (List.mem_cons_of_mem _ hw)
    have hown : s.vm.findClass "jdk/internal/util/Preconditions" = some m.cls := findClass_of_methodNamed B.named
    have hx := B.exec
    have hb := B.bytes
    have hr := B.returns
    have hlk := B.notSynchronized
    have hP := hV.2.1
    have hE := hV.2.2.2.2
    have hS : va_S (mx_A base) s.heap s.heap [] := va_S.rf
    have hl := lv_entry ([.int j, .int n, .ref t]) (n := 3) (Nat.le_of_ble_eq_true rfl)
    rw [lg_entry_eq]
    generalize (lg_sl ([.int j, .int n, .ref t]) ++ List.replicate (3 - (lg_sl ([.int j, .int n, .ref t])).length) Slot.unset).toArray = ls at hl ⊢
    have hl : lv_has ls 3 [(0, .int j), (1, .int n), (2, .ref t)] := hl
    refine lv_iload_n hx hb jd_pre_0 rfl (lv_at hl 0 rfl) ?_
    refine lv_if_lt (tgt := 9) hx hb jd_pre_1 (by decide) (fun c => absurd c h0) (fun _ => ?_)
    refine lv_iload_n hx hb jd_pre_4 rfl (lv_at hl 0 rfl) ?_
    refine lv_iload_n hx hb jd_pre_5 rfl (lv_at hl 1 rfl) ?_
    refine lv_icmp_lt (tgt := 16) hx hb jd_pre_6 (by decide) (fun _ => ?_) (fun c => absurd h1 c)
    refine lv_iload_n hx hb jd_pre_16 rfl (lv_at hl 0 rfl) ?_
    exact W.iret hx hb hr (fun t ht hW => js_out hV hP hS ht hW rfl) hS.2.2 jd_pre_17
theorem js_chk {j n : Int32} (h0 : ¬ j < 0) (h1 : j < n) (d : Nat) : js_M base ad adV L xs cid Dg l D E ⟨"java/lang/String", "checkIndex", "(II)V"⟩ prog_17_method_155_code 2 none (d + 1) [.int j, .int n] none := by
  refine Met.ofW (cc := prog_17_method_155_code) (maxL := 2) (ret := none) (by decide) rfl ?_
  intro p e s m args below meth c s₁ B hml hv
  obtain ⟨rfl, hV⟩ := hv
  have hts := atoms_spec (ws := Cond.code ⟨"java/lang/String", "checkIndex", "(II)V"⟩ prog_17_method_155_code 2 none :: kq_GW) B.pre
  have htg : ∀ w ∈ kq_GW, w.before _ s = true := fun w hw => hts w (List.mem_cons_of_mem _ hw)
  have hown : s.vm.findClass "java/lang/String" = some m.cls := findClass_of_methodNamed B.named
  have hx := B.exec
  have hb := B.bytes
  have hr := B.returns
  have hlk := B.notSynchronized
  have hP := hV.2.1
  have hE := hV.2.2.2.2
  have hS : va_S (mx_A base) s.heap s.heap [] := va_S.rf
  have hl := lv_entry ([.int j, .int n]) (n := 2) (Nat.le_of_ble_eq_true rfl)
  rw [lg_entry_eq]
  generalize (lg_sl ([.int j, .int n]) ++ List.replicate (2 - (lg_sl ([.int j, .int n])).length) Slot.unset).toArray = ls at hl ⊢
  have hl : lv_has ls 2 [(0, .int j), (1, .int n)] := hl
  obtain ⟨v, hv, hz⟩ : ∃ v : Value, (v = .null ∨ ∃ t, v = .ref t) ∧ va_Z "jdk/internal/util/Preconditions" "SIOOBE_FORMATTER" "Ljava/util/function/BiFunction;" v (mx_A base) s s.heap := by
    rcases hE.2.2.2.1 with h | ⟨t, h⟩
    · exact ⟨_, Or.inl rfl, h⟩
    · exact ⟨_, Or.inr ⟨t, rfl⟩, h⟩
  refine lv_iload_n hx hb jd_chk_0 rfl (lv_at hl 0 rfl) ?_
  refine lv_iload_n hx hb jd_chk_1 rfl (lv_at hl 1 rfl) ?_
  refine va_gets hx hb hz hS hown (htg _ (kq_at_in (p := 3051) (by decide +kernel) rfl)) (fun _ h => h) jd_chk_2 ?_
  refine mx_call (r := some (.int j)) (D' := D) (E' := E) (rest := []) (va_runS (As := [.int j, .int n, v]) (bytes := prog_22_method_11_code) (maxL := 3) (ret := (some .int)) (n := 3) ⟨hx, hb, hml, hown, htg⟩ (js_pre h0 h1 hv d) ⟨callB_of 3 htg (mx_good kq_gd (kq_at_in (p := 3055) (by decide +kernel) rfl)) rfl rfl rfl (htg _ (kq_at_in (p := 1018) (by decide +kernel) rfl)) (htg _ (kq_at_in (p := 3053) (by decide +kernel) rfl)) ⟨by decide, by decide, by decide⟩ ⟨Nat.le_refl _, js_room d 3 (by decide)⟩, (htg _ (kq_at_in (p := 3054) (by decide +kernel) rfl))⟩ ⟨mx_blind kx_okE _ D E, fun U hU hW => ⟨rfl, js_in hV hP hS hU hW⟩⟩ rfl rfl hl.1 rfl (lv_room (Nat.le_of_ble_eq_true rfl)) jd_chk_5 ⟨Nat.zero_le _, Nat.zero_le _⟩) hS (fun H1 locs1 hP hS => ?_)
  refine lv_pop (va := .int j) hx hb jd_chk_8 rfl ?_
  exact W.vret hx hb hr (fun t ht hW => js_out hV hP hS ht hW rfl) hS.2.2 jd_chk_9
theorem js_lat {i : Nat} (hi : i < 21) {j : Nat} (hj : j < kx_len i) (d : Nat) : js_M base ad adV L xs cid Dg l D E ⟨"java/lang/StringLatin1", "charAt", "([BI)C"⟩ prog_18_method_2_code 2 (some .char) (d + 1 + 1) [.ref (adV i), .int (nI j)] (some (.int (kx_ch i j))) := by
  refine Met.ofW (cc := prog_18_method_2_code) (maxL := 2) (ret := (some .char)) (by decide) rfl ?_
  intro p e s m args below meth c s₁ B hml hv
  obtain ⟨rfl, hV⟩ := hv
  have hts := atoms_spec (ws := Cond.code ⟨"java/lang/StringLatin1", "charAt", "([BI)C"⟩ prog_18_method_2_code 2 (some .char) :: kq_GW) B.pre
  have htg : ∀ w ∈ kq_GW, w.before _ s = true := fun w hw => hts w (List.mem_cons_of_mem _ hw)
  have hown : s.vm.findClass "java/lang/StringLatin1" = some m.cls := findClass_of_methodNamed B.named
  have hx := B.exec
  have hb := B.bytes
  have hr := B.returns
  have hlk := B.notSynchronized
  have hP := hV.2.1
  have hE := hV.2.2.2.2
  have hS : va_S (mx_A base) s.heap s.heap [] := va_S.rf
  have hl := lv_entry ([.ref (adV i), .int (nI j)]) (n := 2) (Nat.le_of_ble_eq_true rfl)
  rw [lg_entry_eq]
  generalize (lg_sl ([.ref (adV i), .int (nI j)]) ++ List.replicate (2 - (lg_sl ([.ref (adV i), .int (nI j)])).length) Slot.unset).toArray = ls at hl ⊢
  have hl : lv_has ls 2 [(0, .ref (adV i)), (1, .int (nI j))] := hl
  have hl100 := kx_l100 i hi
  obtain ⟨hc1, hc2⟩ := kx_chr i hi j hj
  have hT := (hE.1 i hi).2.2.2
  have h0 : ¬ nI j < 0 := nI_pos (by omega)
  have h1 : nI j < nI (kx_len i) := nI_lt hj (by omega)
  refine lv_iload_n hx hb jd_lat_0 rfl (lv_at hl 1 rfl) ?_
  refine lv_aload_n hx hb jd_lat_1 rfl (lv_at hl 0 rfl) ?_
  refine va_tlen hx hb hT hS (v := nI (kx_len i)) rfl jd_lat_2 ?_
  refine mx_call (r := none) (D' := D) (E' := E) (rest := []) (va_runS (As := [.int (nI j), .int (nI (kx_len i))]) (bytes := prog_17_method_155_code) (maxL := 2) (ret := none) (n := 2) ⟨hx, hb, hml, hown, htg⟩ (js_chk h0 h1 d) ⟨callB_of 2 htg (mx_good kq_gd (kq_at_in (p := 3050) (by decide +kernel) rfl)) rfl rfl rfl (htg _ (kq_at_in (p := 1016) (by decide +kernel) rfl)) (htg _ (kq_at_in (p := 3048) (by decide +kernel) rfl)) ⟨by decide, by decide, by decide⟩ ⟨Nat.le_refl _, js_room (d + 1) 2 (by decide)⟩, (htg _ (kq_at_in (p := 3049) (by decide +kernel) rfl))⟩ ⟨mx_blind kx_okE _ D E, fun U hU hW => ⟨rfl, js_in hV hP hS hU hW⟩⟩ rfl rfl hl.1 rfl (lv_room (Nat.le_of_ble_eq_true rfl)) jd_lat_3 ⟨Nat.zero_le _, Nat.zero_le _⟩) hS (fun H1 locs1 hP hS => ?_)
  refine lv_aload_n hx hb jd_lat_6 rfl (lv_at hl 0 rfl) ?_
  refine lv_iload_n hx hb jd_lat_7 rfl (lv_at hl 1 rfl) ?_
  refine va_tb hx hb hT hS (v := .int (kx_ch i j)) (vp_in_nI hj (by omega)) (by rw [nI_clamp (by omega)]) jd_lat_8 ?_
  refine lv_sipush (v := 255) hx hb jd_lat_9 (by decide) ?_
  refine lv_iand hx hb jd_lat_12 ?_
  refine lv_i2c (v := kx_ch i j) hx hb jd_lat_13 hc1 ?_
  exact W.zret (ty := .char) hx hb hr hc2 (fun t ht hW => js_out hV hP hS ht hW rfl) hS.2.2 jd_lat_14
theorem js_length {i : Nat} (hi : i < 21) (d : Nat) : js_M base ad adV L xs cid Dg l D E ⟨"java/lang/String", "length", "()I"⟩ prog_17_method_54_code 1 (some .int) (d + 1) [.ref (ad (1000 + i))] (some (.int (Int32.ofNat (kx_len i)))) := by
  refine Met.ofW (cc := prog_17_method_54_code) (maxL := 1) (ret := (some .int)) (by decide) rfl ?_
  intro p e s m args below meth c s₁ B hml hv
  obtain ⟨rfl, hV⟩ := hv
  have hts := atoms_spec (ws := Cond.code ⟨"java/lang/String", "length", "()I"⟩ prog_17_method_54_code 1 (some .int) :: kq_GW) B.pre
  have htg : ∀ w ∈ kq_GW, w.before _ s = true := fun w hw => hts w (List.mem_cons_of_mem _ hw)
  have hown : s.vm.findClass "java/lang/String" = some m.cls := findClass_of_methodNamed B.named
  have hx := B.exec
  have hb := B.bytes
  have hr := B.returns
  have hlk := B.notSynchronized
  have hP := hV.2.1
  have hE := hV.2.2.2.2
  have hS : va_S (mx_A base) s.heap s.heap [] := va_S.rf
  have hl := lv_entry ([.ref (ad (1000 + i))]) (n := 1) (Nat.le_of_ble_eq_true rfl)
  rw [lg_entry_eq]
  generalize (lg_sl ([.ref (ad (1000 + i))]) ++ List.replicate (1 - (lg_sl ([.ref (ad (1000 + i))])).length) Slot.unset).toArray = ls at hl ⊢
  have hl : lv_has ls 1 [(0, .ref (ad (1000 + i)))] := hl
  have hT := (hE.1 i hi).2.2.2
  refine lv_aload_n hx hb jd_length_0 rfl (lv_at hl 0 rfl) ?_
  refine vk_getf hx hb (hE.1 i hi).2.2.1 hS hown (htg _ (kq_at_in (p := 9114) (by decide +kernel) rfl)) (fun _ h => h) jd_length_1 ?_
  refine va_tlen hx hb hT hS (v := Int32.ofNat (kx_len i)) rfl jd_length_4 ?_
  refine lv_aload_n hx hb jd_length_5 rfl (lv_at hl 0 rfl) ?_
  refine mx_call (r := some (.int 0)) (D' := D) (E' := E) (rest := [.int (Int32.ofNat (kx_len i))]) (va_runV (As := []) (C := "java/lang/String") (b := ad (1000 + i)) (bytes := prog_17_method_152_code) (maxL := 1) (ret := (some .byte)) (n := 0) ⟨hx, hb, hml, hown, htg⟩ (js_coder hi d) ⟨callB_of 0 htg (mx_good kq_gd (kq_at_in (p := 3034) (by decide +kernel) rfl)) rfl rfl rfl (htg _ (kq_at_in (p := 1016) (by decide +kernel) rfl)) (htg _ (kq_at_in (p := 3031) (by decide +kernel) rfl)) ⟨by decide, by decide, by decide⟩ ⟨Nat.le_refl _, js_room d 1 (by decide)⟩, (htg _ (kq_at_in (p := 3032) (by decide +kernel) rfl)), (htg _ (kq_at_in (p := 3033) (by decide +kernel) rfl))⟩ ⟨mx_blind kx_okE _ D E, js_recv hV hS hi, fun U hU hW => ⟨rfl, js_in hV hP hS hU hW⟩⟩ rfl rfl hl.1 rfl (lv_room (Nat.le_of_ble_eq_true rfl)) jd_length_6 ⟨Nat.zero_le _, Nat.zero_le _⟩) hS (fun H1 locs1 hP hS => ?_)
  refine lv_ishr hx hb jd_length_9 ?_
  rw [kx_shr i hi]
  exact W.iret hx hb hr (fun t ht hW => js_out hV hP hS ht hW rfl) hS.2.2 jd_length_10
theorem js_charAt {i : Nat} (hi : i < 21) {j : Nat} (hj : j < kx_len i) (d : Nat) : js_M base ad adV L xs cid Dg l D E ⟨"java/lang/String", "charAt", "(I)C"⟩ prog_17_method_56_code 2 (some .char) (d + 1 + 1 + 1) [.ref (ad (1000 + i)), .int (nI j)] (some (.int (kx_ch i j))) := by
  refine Met.ofW (cc := prog_17_method_56_code) (maxL := 2) (ret := (some .char)) (by decide) rfl ?_
  intro p e s m args below meth c s₁ B hml hv
  obtain ⟨rfl, hV⟩ := hv
  have hts := atoms_spec (ws := Cond.code ⟨"java/lang/String", "charAt", "(I)C"⟩ prog_17_method_56_code 2 (some .char) :: kq_GW) B.pre
  have htg : ∀ w ∈ kq_GW, w.before _ s = true := fun w hw => hts w (List.mem_cons_of_mem _ hw)
  have hown : s.vm.findClass "java/lang/String" = some m.cls := findClass_of_methodNamed B.named
  have hx := B.exec
  have hb := B.bytes
  have hr := B.returns
  have hlk := B.notSynchronized
  have hP := hV.2.1
  have hE := hV.2.2.2.2
  have hS : va_S (mx_A base) s.heap s.heap [] := va_S.rf
  have hl := lv_entry ([.ref (ad (1000 + i)), .int (nI j)]) (n := 2) (Nat.le_of_ble_eq_true rfl)
  rw [lg_entry_eq]
  generalize (lg_sl ([.ref (ad (1000 + i)), .int (nI j)]) ++ List.replicate (2 - (lg_sl ([.ref (ad (1000 + i)), .int (nI j)])).length) Slot.unset).toArray = ls at hl ⊢
  have hl : lv_has ls 2 [(0, .ref (ad (1000 + i))), (1, .int (nI j))] := hl
  obtain ⟨hc1, hc2⟩ := kx_chr i hi j hj
  refine lv_aload_n hx hb jd_charAt_0 rfl (lv_at hl 0 rfl) ?_
  refine mx_call (r := some (.int 1)) (D' := D) (E' := E) (rest := []) (va_runV (As := []) (C := "java/lang/String") (b := ad (1000 + i)) (bytes := prog_17_method_154_code) (maxL := 1) (ret := (some .boolean)) (n := 0) ⟨hx, hb, hml, hown, htg⟩ (js_latin hi (d + 1 + 1)) ⟨callB_of 0 htg (mx_good kq_gd (kq_at_in (p := 3044) (by decide +kernel) rfl)) rfl rfl rfl (htg _ (kq_at_in (p := 1016) (by decide +kernel) rfl)) (htg _ (kq_at_in (p := 3041) (by decide +kernel) rfl)) ⟨by decide, by decide, by decide⟩ ⟨Nat.le_refl _, js_room (d + 1 + 1) 1 (by decide)⟩, (htg _ (kq_at_in (p := 3042) (by decide +kernel) rfl)), (htg _ (kq_at_in (p := 3043) (by decide +kernel) rfl))⟩ ⟨mx_blind kx_okE _ D E, js_recv hV hS hi, fun U hU hW => ⟨rfl, js_in hV hP hS hU hW⟩⟩ rfl rfl hl.1 rfl (lv_room (Nat.le_of_ble_eq_true rfl)) jd_charAt_1 ⟨Nat.zero_le _, Nat.zero_le _⟩) hS (fun H1 locs1 hP hS => ?_)
  refine lv_if_eq (tgt := 16) hx hb jd_charAt_4 (by decide) (fun c => absurd c (by decide)) (fun _ => ?_)
  refine lv_aload_n hx hb jd_charAt_7 rfl (lv_at hl 0 rfl) ?_
  refine vk_getf hx hb (hE.1 i hi).2.2.1 hS hown (htg _ (kq_at_in (p := 9114) (by decide +kernel) rfl)) (fun _ h => h) jd_charAt_8 ?_
  refine lv_iload_n hx hb jd_charAt_11 rfl (lv_at hl 1 rfl) ?_
  refine mx_call (r := some (.int (kx_ch i j))) (D' := D) (E' := E) (rest := []) (va_runS (As := [.ref (adV i), .int (nI j)]) (bytes := prog_18_method_2_code) (maxL := 2) (ret := (some .char)) (n := 2) ⟨hx, hb, hml, hown, htg⟩ (js_lat hi hj d) ⟨callB_of 2 htg (mx_good kq_gd (kq_at_in (p := 3047) (by decide +kernel) rfl)) rfl rfl rfl (htg _ (kq_at_in (p := 1017) (by decide +kernel) rfl)) (htg _ (kq_at_in (p := 3045) (by decide +kernel) rfl)) ⟨by decide, by decide, by decide⟩ ⟨Nat.le_refl _, js_room (d + 1 + 1) 2 (by decide)⟩, (htg _ (kq_at_in (p := 3046) (by decide +kernel) rfl))⟩ ⟨mx_blind kx_okE _ D E, fun U hU hW => ⟨rfl, js_in hV hP hS hU hW⟩⟩ rfl rfl hl.1 rfl (lv_room (Nat.le_of_ble_eq_true rfl)) jd_charAt_12 ⟨Nat.zero_le _, Nat.zero_le _⟩) hS (fun H1 locs1 hP hS => ?_)
  exact W.zret (ty := .char) hx hb hr hc2 (fun t ht hW => js_out hV hP hS ht hW rfl) hS.2.2 jd_charAt_15
theorem js_str {k : Nat} {t : List Int32} (h : mx_nth kq_str k = some t) : k < 21 ∧ kx_len k = t.length ∧ ∀ j c, mx_nth t j = some c → j < kx_len k ∧ kx_ch k j = c := by
  have hk : k < 21 := by
    have := mx_nth_lt h
    exact this
  rw [mx_nth_eq] at h
  have e : kq_str.getD k [] = t := by rw [List.getD_eq_getElem?_getD, h]; rfl
  refine ⟨hk, by unfold kx_len; rw [e], fun j c hc => ?_⟩
  have hj := mx_nth_lt hc
  rw [mx_nth_eq] at hc
  refine ⟨by unfold kx_len; rw [e]; exact hj, ?_⟩
  unfold kx_ch
  rw [e, List.getD_eq_getElem?_getD, hc]
  rfl
/-- the outer methods are what the small machine says of them -/
theorem kx_okS : mx_okS kq_mt kq_sp kq_GW base ad cid kq_lay 141 Dg kq_cl (al_tys cid) (kx_E base ad adV L xs) l := by
  -- what the small machine answers
  have sp1 : ∀ (z : Nat) (as : List Value) (v : Value), kq_sp z as = some v → (z = 335 ∧ ∃ i, i < 21 ∧ as = [.ref (1000 + i)] ∧ v = .int (Int32.ofNat (kx_len i))) ∨ (z = 336 ∧ ∃ i j, i < 21 ∧ j < kx_len i ∧ as = [.ref (1000 + i), .int (nI j)] ∧ v = .int (kx_ch i j)) := by
    intro z as v h
    unfold kq_sp at h
    split at h
    · rename_i b
      cases hb : (Nat.beq z 335 && Nat.ble 1000 b) with
      | false =>
        rw [hb] at h
        cases h
      | true =>
        rw [hb] at h
        rw [Bool.and_eq_true] at hb
        have e1 := Nat.eq_of_beq_eq_true hb.1
        have e2 := Nat.le_of_ble_eq_true hb.2
        simp only [cond_true] at h
        split at h
        case h_2 => cases h
        rename_i t ht
        cases h
        obtain ⟨h1, h2, -⟩ := js_str ht
        exact Or.inl ⟨e1, b - 1000, h1, by rw [Nat.add_sub_cancel' e2], by rw [h2]⟩
    · rename_i b k
      cases hb : (Nat.beq z 336 && Nat.ble 1000 b) with
      | false =>
        rw [hb] at h
        cases h
      | true =>
        rw [hb] at h
        rw [Bool.and_eq_true] at hb
        have e1 := Nat.eq_of_beq_eq_true hb.1
        have e2 := Nat.le_of_ble_eq_true hb.2
        simp only [cond_true] at h
        split at h
        case h_2 => cases h
        rename_i t ht
        by_cases hk : k < 0
        · rw [if_pos hk] at h
          cases h
        · rw [if_neg hk] at h
          split at h
          case h_2 => cases h
          rename_i c hc
          cases h
          obtain ⟨j, hj, rfl⟩ := nI_of hk
          rw [nI_clamp hj] at hc
          obtain ⟨h1, -, h3⟩ := js_str ht
          obtain ⟨q1, q2⟩ := h3 j c hc
          exact Or.inr ⟨e1, b - 1000, j, h1, q1, by rw [Nat.add_sub_cancel' e2], by rw [q2]⟩
    · cases h
  refine ⟨fun z as v h => ?_, fun z b as v q h hz s hE => ?_⟩
  · rcases sp1 z as v h with ⟨rfl, i, hi, rfl, rfl⟩ | ⟨rfl, i, j, hi, hj, rfl, rfl⟩
    · refine ⟨⟨_, rfl⟩, fun D E d hd nm bs mL ret hm => ?_⟩
      obtain ⟨d, rfl⟩ : ∃ g, d = g + 1 := ⟨d - 1, by omega⟩
      cases hm
      exact js_length hi d
    · refine ⟨⟨_, rfl⟩, fun D E d hd nm bs mL ret hm => ?_⟩
      obtain ⟨d, rfl⟩ : ∃ g, d = g + 1 + 1 + 1 := ⟨d - 3, by omega⟩
      cases hm
      exact js_charAt hi hj d
  · rcases sp1 z _ v h with ⟨rfl, i, hi, e, -⟩ | ⟨rfl, i, j, hi, hj, e, -⟩
    · cases hz
      injection e with e1 _
      injection e1 with e1
      subst e1
      obtain ⟨cell, h1, h2, h3, h4⟩ := (hE.1 i hi).1
      exact ⟨cell, h1, h2, h3, h4⟩
    · cases hz
      injection e with e1 _
      injection e1 with e1
      subst e1
      obtain ⟨cell, h1, h2, h3, h4⟩ := (hE.1 i hi).1
      exact ⟨cell, h1, h2, h3, h4⟩
end JS
