/-! ===== the making machine: tables and runs are sound ===== -/
def al_ipl : List (Nat × Nat) := [(2065, 1009), (1054, 1004), (2052, 1008), (2097, 1010), (2003, 1006), (1060, 1005), (1048, 1003), (2151, 1012), (2028, 1007), (2130, 1011), (1031, 1002), (1023, 1001), (6070, 1013)]
def al_pNw (e : Nat × Nat × Nat × Nat) : Bool := match kq_cl[e.2.2.1]? with
  | some q => decide (kq_at e.2.2.2 = some (Cond.classLink (kq_cn e.1) e.2.1 q.1)) && decide (kq_at (al_ipl.getD e.2.2.1 (0, 0)).1 = some (Cond.instantiable q.1 q.2.2)) && decide (kq_at (al_ipl.getD e.2.2.1 (0, 0)).2 = some (Cond.initialized q.1))
  | none => false
theorem al_eNw : ∀ e ∈ al_nwT, al_pNw e = true := List.all_eq_true.mp (by decide +kernel)
theorem al_eOi : ∀ e ∈ al_oiT, (decide (kq_at e.2.2 = some (Cond.methodLink (kq_cn e.1) e.2.1 Lib.objectInit))) = true := List.all_eq_true.mp (by decide +kernel)
theorem al_o1 : Cond.instanceMethod Lib.objectInit ∈ kq_GW := kq_at_in (p := 1028) (by decide +kernel) rfl
theorem al_o2 : Cond.code Lib.objectInit ⟨#[0xb1]⟩ 1 none ∈ kq_GW := kq_at_in (p := 1029) (by decide +kernel) rfl
theorem al_a0 : Cond.arrayClass .int ∈ kq_GW := kq_at_in (p := 1114) (by decide +kernel) rfl
theorem al_a1 : Cond.arrayClass .byte ∈ kq_GW := kq_at_in (p := 1046) (by decide +kernel) rfl
theorem al_a2 : Cond.arrayClass .boolean ∈ kq_GW := kq_at_in (p := 2050) (by decide +kernel) rfl
theorem al_a3 : Cond.arrayClass .long ∈ kq_GW := kq_at_in (p := 2175) (by decide +kernel) rfl
def al_pCk (e : Nat × Nat × Bool × Nat × Nat × Nat) : Bool := match kq_m e.2.2.2.1 with
  | some q => (e.2.2.1 || decide (kq_at e.2.2.2.2.2 = some (Cond.methodLink (kq_cn e.1) e.2.1 q.1))) && decide (kq_at (kq_pl e.2.2.2.1).2.2.2 = some (Cond.initialized q.1.cls)) && decide (kq_at (kq_pl e.2.2.2.1).2.1 = some (Cond.instanceMethod q.1)) && decide (q.1.cls ≠ "java/lang/invoke/MethodHandle") && decide (q.1.cls ≠ "java/lang/invoke/VarHandle") && decide ((parseMethodDescriptor q.1.desc).map (fun d => d.parameters.length) = some e.2.2.2.2.1) && decide (q.1.name = "<init>") && decide (q.2.2.2.1 = none) && Nat.blt e.2.2.2.1 337
  | none => false
theorem al_eCk : ∀ e ∈ al_ckT, al_pCk e = true := List.all_eq_true.mp (by decide +kernel)
theorem al_okTa {y : Nat} {q : kq_Ty} (h : kq_m y = some q) (hc : kq_cz y < 17) : al_okT y q.1.cls := by
  have hn : q.1.cls = kq_cn (kq_cz y) := by
    rcases (kq_own h).2.2 with ⟨-, hn⟩ | h17
    · exact hn
    · omega
  refine ⟨fun idx ci hci => ?_, fun idx ho => ?_, al_o1, al_o2, al_a0, al_a1, al_a2, al_a3, hn⟩
  · obtain ⟨e, he, rfl⟩ := Option.map_eq_some_iff.mp hci
    have hm := List.mem_of_find?_eq_some he
    have hp := List.find?_some he
    simp only [Bool.and_eq_true] at hp
    have e1 : e.1 = kq_cz y := Nat.eq_of_beq_eq_true hp.1
    have e2 : e.2.1 = idx := Nat.eq_of_beq_eq_true hp.2
    have hw := al_eNw e hm
    unfold al_pNw at hw
    split at hw
    · rename_i r hr
      simp only [Bool.and_eq_true] at hw
      refine ⟨r, hr, ?_, kq_at_in (of_decide_eq_true hw.1.2) rfl, kq_at_in (of_decide_eq_true hw.2) rfl⟩
      rw [hn, ← e1, ← e2]
      exact kq_at_in (of_decide_eq_true hw.1.1) rfl
    · cases hw
  · obtain ⟨e, hm, hp⟩ := List.any_eq_true.mp ho
    simp only [Bool.and_eq_true] at hp
    have e1 : e.1 = kq_cz y := Nat.eq_of_beq_eq_true hp.1
    have e2 : e.2.1 = idx := Nat.eq_of_beq_eq_true hp.2
    rw [hn, ← e1, ← e2]
    exact kq_at_in (of_decide_eq_true (al_eOi e hm)) rfl
section AZ
variable {cid : Nat → ClassId} {base : Nat} {Dg : va_G} {l : Launch}
/-- what a run of a constructor gives -/
def al_Met (cid : Nat → ClassId) (base : Nat) (Dg : va_G) (l : Launch) (run : al_Rn) : Prop := ∀ (d z mc ms : Nat) (vs : List Value) (as : List Nat) (G G' : List al_E) (q : kq_Ty), kq_m z = some q → q.1.name = "<init>" → q.2.2.2.1 = none → kq_cz z < 17 → mx_len1 vs ≤ q.2.2.1 → run d z mc ms (0, mx_ent q.2.2.1 vs, [], G, 0, 0) = some G' → al_CT base cid Dg l z vs as G G' d mc ms
theorem al_one {run : al_Rn} (hrun : al_Met cid base Dg l run) {d y mc ms : Nat} {S S' : al_S} (h : al_stp run d y mc ms S = some S') {q : kq_Ty} (hq : kq_m y = some q) (hc17 : kq_cz y < 17)
    {p : Program} {e : Env} {R : Room} {s : State} {m : MethodId} {args : Array Value} {below : List Frame} {meth : Method} {c : Code} {H : Heap} {locs : List Loc} {ls : Array Slot} {Q : State → Prop} {as : List Nat}
    (hR : d ≤ R.frames ∧ 64 * d ≤ R.locals) (hcs : mc ≤ R.cells ∧ ms ≤ R.slots) (hx : p.tables.exec = Jvm.exec) (hb : c.code = q.2.1) (hml : c.maxLocals = q.2.2.1) (hown : s.vm.findClass q.1.cls = some m.cls) (hts : ∀ w ∈ kq_GW, w.before args s = true) (hK : va_K Dg kq_cl (al_tys cid) s) (hN : al_Nx s) (hNt : al_Nt s) (hin : (∃ idx r, kq_fl y idx = some r) → meth.name = "<init>") (hbase : base ≤ s.heap.size)
    (hlen : as.length = S.2.2.2.1.length) (hP : va_P Dg kq_cl (al_wl (al_ad as) cid as S.2.2.2.1) H) (hD : va_D (mx_A base) (al_wl (al_ad as) cid as S.2.2.2.1)) (hS : va_S (mx_A base) s.heap H locs) (hl : mx_has (al_ad as) ls q.2.2.1 S.2.1)
    (kk : ∀ (as' : List Nat) (H1 : Heap) (locs1 : List Loc) (ls1 : Array Slot), (∃ b, as' = as ++ b) → as'.length = S'.2.2.2.1.length → va_P Dg kq_cl (al_wl (al_ad as') cid as' S'.2.2.2.1) H1 → va_D (mx_A base) (al_wl (al_ad as') cid as' S'.2.2.2.1) → va_S (mx_A base) s.heap H1 locs1 → mx_has (al_ad as') ls1 q.2.2.1 S'.2.1 → W p l e R s m args below meth c H1 locs1 S'.2.2.2.2.1 S'.2.2.2.2.2 Q (F0 m S'.1 ls1 (S'.2.2.1.map (mx_av (al_ad as'))))) :
    W p l e R s m args below meth c H locs S.2.2.2.2.1 S.2.2.2.2.2 Q (F0 m S.1 ls (S.2.2.1.map (mx_av (al_ad as)))) := by
  obtain ⟨pc, L, st, G, cells, slots⟩ := S
  obtain ⟨pc', L', st', G', cells', slots'⟩ := S'
  dsimp only at h hlen hP hD hl kk ⊢
  simp only [al_stp] at h
  split at h
  case h_2 => cases h
  rename_i i hi
  obtain ⟨n, hdec, hlenI⟩ := kq_okCd hq _ _ hi
  split at h
  case h_2 => exact al_ins_snd hR hcs hx hb hml hown hts hK hN hin hbase (kq_okF hq) (al_okTa hq hc17) hlen hP hD hS hl i hdec hlenI h kk
  rename_i nst z vs rest hcal
  split at h
  case h_2 => cases h
  rename_i d' mz uz qz hct hqz
  split at h
  case isFalse => cases h
  rename_i hcond
  obtain ⟨hm1, hm2, hlv, hwf⟩ := hcond
  split at h
  case h_2 => cases h
  rename_i G1 hr
  cases h
  simp only [al_wf, Bool.and_eq_true] at hwf
  obtain ⟨⟨wfL, wfs⟩, wfG⟩ := hwf
  simp only [al_cal] at hcal
  split at hcal
  case h_2 => cases hcal
  rename_i idx
  have hdec : decode q.2.1 pc = .ok (.invokespecial idx, 3) := by
    rcases hlenI with rfl | hlenI
    · exact hdec
    · simp [mx_len] at hlenI
  split at hcal
  case h_2 => cases hcal
  rename_i nst0 z0 n0 hck
  split at hcal
  case h_2 => cases hcal
  rename_i b rest0 hdrop
  split at hcal
  case isFalse => cases hcal
  rename_i hc2
  cases hcal
  obtain ⟨htk, hsum⟩ := hc2
  obtain ⟨e0, he0, hee⟩ := Option.map_eq_some_iff.mp hck
  have hm := List.mem_of_find?_eq_some he0
  have hpp := List.find?_some he0
  simp only [Bool.and_eq_true] at hpp
  have e1 : e0.1 = kq_cz y := Nat.eq_of_beq_eq_true hpp.1
  have e2 : e0.2.1 = idx := Nat.eq_of_beq_eq_true hpp.2
  simp only [Prod.mk.injEq] at hee
  obtain ⟨g1, g2, g3⟩ := hee
  have hw := al_eCk e0 hm
  unfold al_pCk at hw
  rw [g2, hqz] at hw
  simp only [Bool.and_eq_true, Bool.or_eq_true] at hw
  obtain ⟨⟨⟨⟨⟨⟨⟨⟨w1, w2⟩, w3⟩, w4⟩, w5⟩, w6⟩, w7⟩, w8⟩, w9⟩ := hw
  have hn : q.1.cls = kq_cn (kq_cz y) := (al_okTa hq hc17).2.2.2.2.2.2.2.2
  have hz17 : kq_cz z < 17 := by
    rcases (kq_own hqz).2.2 with ⟨h1, -⟩ | h1
    · exact h1
    · have hp := kq_ckPa z (kq_m_lt hqz)
      have w9' : z + 1 ≤ 337 := Nat.le_of_ble_eq_true w9
      simp only [kq_ckP, hqz, Bool.and_eq_true, Bool.or_eq_true, ← kq_cz_of hqz, h1] at hp
      rcases hp.2 with h2 | h2
      · cases h2
      · exfalso
        have h3 := Nat.le_of_ble_eq_true h2
        have w7' := of_decide_eq_true w7
        rcases (show z = 337 - 2 ∨ z = 337 - 1 by omega) with rfl | rfl
        · cases hqz
          exact absurd w7' (by decide)
        · cases hqz
          exact absurd w7' (by decide)
  have hret : qz.2.2.2.1 = none := of_decide_eq_true w8
  have hct := hrun d' z mz uz _ as G G' qz hqz (of_decide_eq_true w7) hret hz17 hlv hr qz hqz
  have hcodez : Cond.code qz.1 qz.2.1 qz.2.2.1 qz.2.2.2.1 ∈ kq_GW := kq_at_in (kq_okWa z (Nat.le_of_ble_eq_true w9) qz hqz) rfl
  have hWd : ∀ U : State, U.heap = H → s.WarmedH U.vm → al_Wd base cid Dg as G U := fun U hU hW =>
    ⟨by rw [hU]; exact Nat.le_trans hbase hS.1, hlen, by rw [hU]; exact hP, va_K.moved hW.alike hK, hD, al_Nx_moved hW.alike hN, al_Nt_warm hW hNt⟩
  have h45 := (kq_own hqz).2.1
  have hroom : (al_rm d' mz uz).frames + 1 ≤ R.frames ∧ 8 + (qz.2.2.1 + 11) + (al_rm d' mz uz).locals ≤ R.locals := ⟨by simp only [al_rm]; have := hR.1; omega, by simp only [al_rm]; have := hR.2; omega⟩
  have hdd : qz.1.cls ≠ "java/lang/invoke/MethodHandle" ∧ qz.1.cls ≠ "java/lang/invoke/VarHandle" ∧ (parseMethodDescriptor qz.1.desc).map (fun d => d.parameters.length) = some n0 := ⟨of_decide_eq_true w4, of_decide_eq_true w5, (of_decide_eq_true w6).trans (by rw [g3])⟩
  have hstk : st.map (mx_av (al_ad as)) = ((st.take n0).reverse.map (mx_av (al_ad as))).reverse ++ .ref (al_ad as b) :: st'.map (mx_av (al_ad as)) := mx_stk hdrop
  have hrest : st'.all (al_okv G.length) = true := by
    rw [← List.take_append_drop n0 st, hdrop, List.all_append, List.all_cons] at wfs
    simp only [Bool.and_eq_true] at wfs
    exact wfs.2.2
  have go : va_Run p l e R s m args below meth c H locs cells slots mz uz (F0 m pc ls (st.map (mx_av (al_ad as)))) (st'.map (mx_av (al_ad as))) (al_Q base cid Dg as G' (Value.ref (al_ad as b) :: (st.take n0).reverse.map (mx_av (al_ad as))).toArray) (mx_A base) := by
    rw [hret] at hct hcodez
    cases hnst : nst with
    | false =>
      have hlk : Cond.methodLink q.1.cls idx qz.1 ∈ kq_GW := by
        rcases w1 with w1 | w1
        · rw [g1, hnst] at w1; cases w1
        · rw [hn, ← e1, ← e2]
          exact kq_at_in (of_decide_eq_true w1) rfl
      exact va_runI (As := (st.take n0).reverse.map (mx_av (al_ad as))) (rest := st'.map (mx_av (al_ad as))) (b := al_ad as b) (bytes := qz.2.1) (maxL := qz.2.2.1) (n := n0) ⟨hx, hb, hml, hown, hts⟩ hct ⟨callB_of n0 hts (mx_good kq_gd hcodez) rfl rfl rfl (hts _ (kq_at_in (of_decide_eq_true w2) rfl)) (hts _ hlk) hdd hroom, of_decide_eq_true w7, hts _ (kq_at_in (of_decide_eq_true w3) rfl)⟩
        ⟨al_blind _ as G, fun U hU hW => ⟨rfl, hWd U hU hW⟩⟩ rfl (by rw [List.length_map, List.length_reverse]; exact htk) hl.1.1 hstk (lv_room (by rw [mx_sum_av]; exact hsum)) hdec ⟨by omega, by omega⟩
    | true =>
      have hlk : va_Nw (.methodLinkNest q.1.cls idx qz.1 "LevelSunday") s := by
        have := hNt e0 hm (by rw [g1, hnst]) qz (by rw [g2]; exact hqz)
        rw [e1, e2, ← hn] at this
        exact this
      exact va_runIN (As := (st.take n0).reverse.map (mx_av (al_ad as))) (rest := st'.map (mx_av (al_ad as))) (b := al_ad as b) (bytes := qz.2.1) (maxL := qz.2.2.1) (n := n0) ⟨hx, hb, hml, hown, hts⟩ hct ⟨va_cnB n0 hts (mx_good kq_gd hcodez) rfl rfl rfl hlk (hts _ (kq_at_in (of_decide_eq_true w2) rfl)) hdd hroom, of_decide_eq_true w7, hts _ (kq_at_in (of_decide_eq_true w3) rfl)⟩
        ⟨al_blind _ as G, fun U hU hW => ⟨rfl, hWd U hU hW⟩⟩ rfl (by rw [List.length_map, List.length_reverse]; exact htk) hl.1.1 hstk (lv_room (by rw [mx_sum_av]; exact hsum)) hdec ⟨by omega, by omega⟩
  refine al_call go hS (fun as' H1 locs1 hbx hl1 hP1 hD1 hS1 => ?_)
  obtain ⟨bb, rfl⟩ := hbx
  have hcg : ∀ k, k < G.length → al_ad (as ++ bb) k = al_ad as k := fun k hk => al_ad_app as bb (by rw [hlen]; exact hk)
  have := kk (as ++ bb) H1 locs1 ls ⟨bb, rfl⟩ hl1 hP1 hD1 hS1 ⟨by rw [al_as_congr hcg _ 0 wfL]; exact hl.1, hl.2⟩
  rw [al_st_congr hcg hrest] at this
  exact this
end AZ
