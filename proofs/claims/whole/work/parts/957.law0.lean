/-! ===== the law from its entry ===== -/
section LS
theorem ld_0 : decode code 0 = .ok (.new 7, 3) := by decide +kernel
theorem ld_3 : decode code 3 = .ok (.dup, 1) := by decide +kernel
theorem ld_4 : decode code 4 = .ok (.invokespecial 9, 3) := by decide +kernel
theorem ld_7 : decode code 7 = .ok (.astore_n 1, 1) := by decide +kernel
theorem ld_8 : decode code 8 = .ok (.new 10, 3) := by decide +kernel
theorem ld_11 : decode code 11 = .ok (.dup, 1) := by decide +kernel
theorem ld_12 : decode code 12 = .ok (.invokespecial 12, 3) := by decide +kernel
theorem ld_15 : decode code 15 = .ok (.astore_n 2, 1) := by decide +kernel
/-! the kinds of objects and arrays -/
def ls_ok1 (c : Nat) : Bool := match kq_cl[c]? with
  | some q => decide (kq_at (al_ipl.getD c (0, 0)).1 = some (Cond.instantiable q.1 q.2.2))
  | none => false
theorem ls_chk1 : (List.range 13).all ls_ok1 = true := by decide +kernel
theorem ls_inst {c : Nat} {q : vw_C} (h : kq_cl[c]? = some q) : Cond.instantiable q.1 q.2.2 ∈ kq_GW := by
  have hc : c < 13 := (List.getElem?_eq_some_iff.mp h).1
  have h1 := List.all_eq_true.mp ls_chk1 c (List.mem_range.mpr hc)
  unfold ls_ok1 at h1
  rw [h] at h1
  exact kq_at_in (of_decide_eq_true h1) rfl
theorem ls_known {s : State} {args : Array Value} (hg : ∀ w ∈ kq_GW, w.before args s = true) (hN : al_Nx s) : ∃ (Dg : va_G) (cid : Nat → ClassId), va_K Dg kq_cl (al_tys cid) s := by
  have hc : ∀ c : Nat, ∃ x : ClassId × (Nat → Nat), ∀ q : vw_C, kq_cl[c]? = some q → u_Kn s q.1 q.2.1 q.2.2 x.1 x.2 := by
    intro c
    cases h : kq_cl[c]? with
    | none => exact ⟨(0, fun _ => 0), fun q hq => by cases hq⟩
    | some q =>
      obtain ⟨cC, iS, hk⟩ := u_known (C := q.1) (T := q.2.1) (N := q.2.2) (n := q.2.2) hg (kq_okC c q h).1 (hg _ (ls_inst h))
      exact ⟨(cC, iS), fun q' hq' => by
        cases hq'
        exact hk⟩
  obtain ⟨f, hf⟩ := Classical.axiomOfChoice hc
  obtain ⟨a0, k0, m0, f0, g0, h0⟩ := Cond.arrayClass_spec (hg _ al_a0)
  obtain ⟨a1, k1, m1, f1, g1, h1⟩ := Cond.arrayClass_spec (hg _ al_a1)
  obtain ⟨a2, k2, m2, f2, g2, h2⟩ := Cond.arrayClass_spec (hg _ al_a2)
  obtain ⟨a3, k3, m3, f3, g3, h3⟩ := Cond.arrayClass_spec (hg _ al_a3)
  obtain ⟨m4, a4, k4, f4, -, g4, h4, e4⟩ := Cond.arrayOver_spec hN.1
  obtain ⟨m5, a5, k5, f5, -, g5, h5, e5⟩ := Cond.arrayOver_spec hN.2
  refine ⟨(fun c => (f c).1, fun c => (f c).2), fun k => [a0, a1, a2, a3, a4, a5].getD k 0, fun c q hq => hf c q hq, fun k q hk => ?_⟩
  have hk6 : k < 6 := (List.getElem?_eq_some_iff.mp hk).1
  rcases (show k = 0 ∨ k = 1 ∨ k = 2 ∨ k = 3 ∨ k = 4 ∨ k = 5 by omega) with rfl | rfl | rfl | rfl | rfl | rfl
  · cases hk
    exact ⟨fun n z => ⟨(fun k h => by cases h), k0, g0, m0, h0⟩, f0⟩
  · cases hk
    exact ⟨fun n z => ⟨(fun k h => by cases h), k1, g1, m1, h1⟩, f1⟩
  · cases hk
    exact ⟨fun n z => ⟨(fun k h => by cases h), k2, g2, m2, h2⟩, f2⟩
  · cases hk
    exact ⟨fun n z => ⟨(fun k h => by cases h), k3, g3, m3, h3⟩, f3⟩
  · cases hk
    exact ⟨fun n z => ⟨(fun k h => by cases h), k4, g4, m4, h4⟩, k4, m4, g4, h4, f4, e4⟩
  · cases hk
    exact ⟨fun n z => ⟨(fun k h => by cases h), k5, g5, m5, h5⟩, k5, m5, g5, h5, f5, e5⟩
def ls_ok2 (e : Nat × Nat × Bool × Nat × Nat × Nat) : Bool := !e.2.2.1 || (match kq_m e.2.2.2.1 with
  | some q => decide (kq_at e.2.2.2.2.2 = some (Cond.methodLinkNest (kq_cn e.1) e.2.1 q.1 "LevelSunday"))
  | none => true)
theorem ls_chk2 : al_ckT.all ls_ok2 = true := by decide +kernel
theorem ls_Nt {s : State} {args : Array Value} (hts : ∀ w ∈ lw_tbl, w.before args s = true) : al_Nt s := fun e he hn q hq => by
  have h := List.all_eq_true.mp ls_chk2 e he
  unfold ls_ok2 at h
  rw [hn, hq] at h
  have h2 : kq_at e.2.2.2.2.2 = some (Cond.methodLinkNest (kq_cn e.1) e.2.1 q.1 "LevelSunday") := by simpa using h
  exact va_Nw.of rfl (hts _ (kq_tab_in _ _ (List.mem_of_getElem? h2)))
/-! one more cell -/
theorem ls_dfs {ad : Nat → Nat} (T : u_T) (n : Nat) : (al_dfs T n).map (mx_av ad) = al_dfs T n := by
  unfold al_dfs
  rw [List.map_map]
  apply List.map_congr_left
  intro j _
  simp only [Function.comp]
  cases parseFieldDescriptor (T j).2.2.1 with
  | none => rfl
  | some t => cases t <;> rfl
theorem ls_push {cid : Nat → ClassId} {as : List Nat} {G : List al_E} (hlen : as.length = G.length) (hG : G.all (al_oke as.length) = true) (q ci : Nat) (T : u_T) (n : Nat) : al_wl (al_ad (as ++ [q])) cid (as ++ [q]) (G ++ [.inr (.inr (ci, al_dfs T n))]) = al_wl (al_ad as) cid as G ++ [(q, .inr (ci, al_dfs T n))] := by
  rw [al_wl_push hlen, al_wl_congr (ad := al_ad as) (ad' := al_ad (as ++ [q])) (fun k hk => al_ad_app as [q] hk) hG]
  have e : al_ce (al_ad (as ++ [q])) cid (.inr (.inr (ci, al_dfs T n))) = .inr (ci, al_dfs T n) := by
    show Sum.inr (ci, (al_dfs T n).map (mx_av (al_ad (as ++ [q])))) = _
    rw [ls_dfs]
  rw [e]
theorem ls_init (j : Nat) (T : u_T) (n : Nat) (ty : Nat → FieldType) (hty : ∀ k, k < n → parseFieldDescriptor (T k).2.2.1 = some (ty k)) (hj : j < n) : defaultValue (ty j) = vp_V (al_dfs T n) j := by
  unfold vp_V al_dfs
  rw [List.getD_eq_getElem?_getD, List.getElem?_map, List.getElem?_range hj]
  simp only [Option.map_some, Option.getD_some, hty j hj]
theorem ls_G1 : al_G1.length = 116 := by decide +kernel
theorem ls_G1ok : al_G1.all (al_oke 116) = true := by decide +kernel
def ls_Z (below : List Frame) (a : Array Value) (s : State) : State → Prop := fun t => ∃ o, t.status = .running ∧ Ended t below o ∧ (o = .returned (some (.int 1)) ∧ Framed s o t [] 600000 7302250)
set_option maxHeartbeats 4000000 in
set_option maxRecDepth 100000 in
/-- from its loop on -/
theorem ls_loop {p : Program} {e : Env} {s : State} {m : MethodId} {below : List Frame} {meth : Method} {c : Code} (l : Launch) {b L : Nat} {xs : Nat → Int32} (hL : L ≤ 3072) (hx : p.tables.exec = Jvm.exec) (hb : c.code = code) (hr : meth.sig.returnType = some .boolean) (hml : c.maxLocals = 4) (hown : s.vm.findClass "LevelSundayLaw" = some m.cls) (hts : ∀ w ∈ lw_tbl, w.before #[Value.ref b] s = true) (hX : va_X b L xs s s.heap) (hbl : b < s.heap.size) (hlk : meth.locks = false) (hgv : (Cond.and given_1 narrow_1).before #[Value.ref b] s = true)
    {Dg : va_G} {cid : Nat → ClassId} (hK : va_K Dg kq_cl (al_tys cid) s) {as : List Nat} (hlen : as.length = al_G2.length) {H : Heap} {locs : List Loc} {ls : Array Slot} (hP : va_P Dg kq_cl (al_wl (al_ad as) cid as al_G2) H) (hD : va_D (mx_A s.heap.size) (al_wl (al_ad as) cid as al_G2)) (hS : va_S (mx_A s.heap.size) s.heap H locs) (hl : lv_has ls 4 [(2, .ref (al_ad as 116)), (1, .ref (al_ad as 0)), (0, .ref b)]) :
    W p l e room_1 s m #[Value.ref b] below meth c H locs 141 15852 (ls_Z below #[Value.ref b] s) (F0 m 16 ls []) := by
  have htg : ∀ w ∈ kq_GW, w.before #[Value.ref b] s = true := fun w h => hts w (List.mem_filter.mp h).1
  obtain ⟨adK, adV, t, hE⟩ := kx_start hts hgv hX hbl
  obtain ⟨ad, had⟩ : ∃ ad : Nat → Nat, ad = fun k => if k < 141 then as.getD k 0 else if k = 2000 then t else if k = 2001 then b else adK (k - 1000) := ⟨_, rfl⟩
  have e0 : ∀ k, k < 141 → ad k = as.getD k 0 := fun k hk => by
    rw [had]
    exact if_pos hk
  have e1 : ad 2000 = t := by
    rw [had]
    rfl
  have e2 : ad 2001 = b := by
    rw [had]
    rfl
  have e3 : ∀ i, i < 21 → ad (1000 + i) = adK i := fun i hi => by
    rw [had]
    dsimp only
    rw [if_neg (by omega), if_neg (by omega), if_neg (by omega)]
    congr 1
    omega
  have hEx := hE ad e3 e1 e2
  have hl141 : as.length = 141 := hlen.trans al_G2_len
  have ew := al_wl_mx (ad := ad) (cid := cid) hl141 e0 al_G2_ok
  rw [ew] at hP hD
  have hh : mx_has ad ls 4 [some (.ref 2001), some (.ref 0), some (.ref 116), none] := by
    have q := lv_sub hl [2, 1, 0] (l' := [(0, .ref b), (1, .ref (al_ad as 0)), (2, .ref (al_ad as 116))]) rfl
    refine ⟨?_, rfl⟩
    show lv_has ls 4 [(0, .ref (ad 2001)), (1, .ref (ad 0)), (2, .ref (ad 116))]
    rw [e2, e0 0 (by decide), e0 116 (by decide)]
    exact q
  obtain ⟨D2, E2, hg⟩ := tn_law (F := 10000000000) (D := kq_D0) (E := kq_E0) (Nat.le_refl _) (L, xs) hL kz_RL
  obtain ⟨f, r, D', E', hrun, hr1, -, -⟩ := t_law (L, xs) 10000000000 999 (by decide) kq_D0 kq_E0 _ hg
  have hsnd := mx_snd (base := s.heap.size) (ad := ad) (cid := cid) (Dg := Dg) (l := l) (kx_okM (ad := ad) (adV := adV) (L := L) (xs := xs)) kq_okN kq_okC (kx_okL cid) kx_okX kx_okE kx_okS kq_gd f
  have hW := hsnd 1000 337 (16, [some (.ref 2001), some (.ref 0), some (.ref 116), none], [], kq_D0, kq_E0) r D' E' hrun _ _ _ _ (show kq_mt 337 = some (⟨"LevelSundayLaw", "law", "([I)Z"⟩, code, 4, some .boolean) from rfl) p e s m #[Value.ref b] below meth c H locs ls room_1 141 15852 ⟨by decide, by decide⟩ ⟨Nat.le_of_ble_eq_true rfl, Nat.le_of_ble_eq_true rfl⟩ hx hb hml hr hlk hown htg hK hEx (Nat.le_refl _) hP hD hS hh
  intro T hT X
  obtain ⟨t2, a1, o, b1, b2, b3, Lx, b4, b5⟩ := hW T hT X
  refine ⟨t2, a1, o, b1, b2, ?_, ?_⟩
  · rw [b3.1, hr1]
    rfl
  · exact ⟨b4.1, b4.2.1, b4.2.2.weaken (fun y hy hlt => absurd hlt (Nat.not_lt.mpr (b5 y hy))) (Nat.le_of_ble_eq_true rfl) (Nat.le_of_ble_eq_true rfl)⟩
set_option maxHeartbeats 4000000 in
set_option maxRecDepth 100000 in
theorem ls_start {p : Program} {e : Env} {s : State} {m : MethodId} {below : List Frame} {meth : Method} {c : Code} (l : Launch) {b L : Nat} {xs : Nat → Int32} (hL : L ≤ 3072) (hx : p.tables.exec = Jvm.exec) (hb : c.code = code) (hr : meth.sig.returnType = some .boolean) (hml : c.maxLocals = 4) (hown : s.vm.findClass "LevelSundayLaw" = some m.cls) (hts : ∀ w ∈ lw_tbl, w.before #[Value.ref b] s = true) (hX : va_X b L xs s s.heap) (hbl : b < s.heap.size) (hlk : meth.locks = false) (hgv : (Cond.and given_1 narrow_1).before #[Value.ref b] s = true) :
    W p l e room_1 s m #[Value.ref b] below meth c s.heap [] 0 0 (ls_Z below #[Value.ref b] s) (entryFrame m ([Value.ref b] : List Value).toArray 4) := by
  have htg : ∀ w ∈ kq_GW, w.before #[Value.ref b] s = true := fun w h => hts w (List.mem_filter.mp h).1
  have hw : ∀ (p : Nat) (w : Cond), kq_at p = some w → w.before #[Value.ref b] s = true := fun p w h => hts w (kq_tab_in _ w (List.mem_of_getElem? h))
  have hN : al_Nx s := ⟨va_AO.of (hw 2148 _ (by decide +kernel)), va_AO.of (hw 2150 _ (by decide +kernel))⟩
  have hNt : al_Nt s := ls_Nt hts
  obtain ⟨Dg, cid, hK⟩ := ls_known htg hN
  have hA : ∀ q : Nat, s.heap.size ≤ q → mx_A s.heap.size q := fun _ h => h
  have hS : va_S (mx_A s.heap.size) s.heap s.heap [] := va_S.rf
  have hP : va_P Dg kq_cl [] s.heap := fun k q h => by simp at h
  have hD : va_D (mx_A s.heap.size) [] := ⟨fun i j p q h => by simp at h, fun k q h => by simp at h⟩
  have hl := lv_entry ([.ref b]) (n := 4) (Nat.le_of_ble_eq_true rfl)
  rw [lg_entry_eq]
  generalize (lg_sl ([.ref b]) ++ List.replicate (4 - (lg_sl ([.ref b])).length) Slot.unset).toArray = ls at hl ⊢
  have hl : lv_has ls 4 [(0, .ref b)] := hl
  obtain ⟨cw1, ⟨ty1, hty1⟩, -⟩ := kq_okC 11 _ rfl
  obtain ⟨cw2, ⟨ty2, hty2⟩, -⟩ := kq_okC 12 _ rfl
  -- the class's object
  refine va_new (ci := 11) (fs := al_dfs kq_T11 12) (C := "LevelSunday") (T := kq_T11) (N := 12) hx hb htg cw1 ty1 hty1 hown (htg _ (kq_at_in (p := 1022) (by decide +kernel) rfl)) (htg _ (kq_at_in (p := 1023) (by decide +kernel) rfl)) (htg _ (kq_at_in (p := 1001) (by decide +kernel) rfl)) hK hP hD hS hA rfl (fun j hj => ls_init j _ _ ty1 hty1 hj) (Nat.le_of_ble_eq_true rfl) (Nat.le_of_ble_eq_true rfl) ld_0 (fun q0 H1 hP1 hD1 hS1 => ?_)
  have w1 : al_wl (al_ad [q0]) cid [q0] [al_e1] = [] ++ [(q0, .inr (11, al_dfs kq_T11 12))] := ls_push (cid := cid) (as := []) (G := []) rfl rfl q0 11 kq_T11 12
  rw [← w1] at hP1 hD1
  refine lv_dup hx hb ld_3 rfl ?_
  refine al_call (G' := al_G1) (va_runI (As := []) (rest := [.ref q0]) (b := q0) (bytes := kq_q104.2.1) (maxL := kq_q104.2.2.1) (n := 0) ⟨hx, hb, hml, hown, htg⟩ (al_met (al_snd 300) 20 104 115 2724 [.ref 0] [q0] [al_e1] al_G1 kq_q104 rfl rfl rfl (by decide) (by decide) al_run1 kq_q104 rfl) ⟨callB_of 0 htg (mx_good kq_gd (kq_at_in (kq_okWa 104 (by decide) kq_q104 rfl) rfl)) rfl rfl rfl (htg _ (kq_at_in (p := 1001) (by decide +kernel) rfl)) (htg _ (kq_at_in (p := 1024) (by decide +kernel) rfl)) ⟨by decide, by decide, by decide⟩ ⟨by decide, by decide⟩, rfl, htg _ (kq_at_in (p := 1025) (by decide +kernel) rfl)⟩ ⟨al_blind _ [q0] [al_e1], fun U hU hW => ⟨rfl, by rw [hU]; exact hS1.1, rfl, by rw [hU]; exact hP1, va_K.moved hW.alike hK, hD1, al_Nx_moved hW.alike hN, al_Nt_warm hW hNt⟩⟩ rfl rfl hl.1 rfl (lv_room (Nat.le_of_ble_eq_true rfl)) ld_4 ⟨Nat.le_of_ble_eq_true rfl, Nat.le_of_ble_eq_true rfl⟩) hS1 (fun as1 H2 locs2 hb1 hl1 hP2 hD2 hS2 => ?_)
  obtain ⟨c1, rfl⟩ := hb1
  have hn1 : (q0 :: c1).length = 116 := hl1.trans ls_G1
  refine lv_astore_n (lv' := [(1, .ref q0), (0, .ref b)]) hx hb ld_7 rfl hl (by decide) rfl (fun ls hl => ?_)
  -- the reference's
  refine va_new (ci := 12) (fs := al_dfs kq_T12 40) (C := "LevelSundayModel") (T := kq_T12) (N := 40) hx hb htg cw2 ty2 hty2 hown (htg _ (kq_at_in (p := 6069) (by decide +kernel) rfl)) (htg _ (kq_at_in (p := 6070) (by decide +kernel) rfl)) (htg _ (kq_at_in (p := 1013) (by decide +kernel) rfl)) hK hP2 hD2 hS2 hA rfl (fun j hj => ls_init j _ _ ty2 hty2 hj) (Nat.le_of_ble_eq_true rfl) (Nat.le_of_ble_eq_true rfl) ld_8 (fun q1 H3 hP3 hD3 hS3 => ?_)
  have w2 : al_wl (al_ad (([q0] ++ c1) ++ [q1])) cid (([q0] ++ c1) ++ [q1]) (al_G1 ++ [al_e2]) = al_wl (al_ad ([q0] ++ c1)) cid ([q0] ++ c1) al_G1 ++ [(q1, .inr (12, al_dfs kq_T12 40))] := ls_push (cid := cid) hl1 (by rw [show ([q0] ++ c1).length = 116 from hn1]; exact ls_G1ok) q1 12 kq_T12 40
  rw [← w2] at hP3 hD3
  have hn2 : (([q0] ++ c1) ++ [q1]).length = (al_G1 ++ [al_e2]).length := by
    have z1 : (([q0] ++ c1) ++ [q1]).length = ([q0] ++ c1).length + 1 := List.length_append
    have z2 : (al_G1 ++ [al_e2]).length = al_G1.length + 1 := List.length_append
    rw [z1, z2, hl1]
  have e116 : al_ad (([q0] ++ c1) ++ [q1]) 116 = q1 := by
    unfold al_ad
    rw [List.getD_eq_getElem?_getD, List.getElem?_append_right (by rw [show ([q0] ++ c1).length = 116 from hn1]; exact Nat.le_refl _), show ([q0] ++ c1).length = 116 from hn1]
    rfl
  refine lv_dup hx hb ld_11 rfl ?_
  refine al_call (G' := al_G2) (va_runI (As := []) (rest := [.ref q1]) (b := q1) (bytes := kq_q181.2.1) (maxL := kq_q181.2.2.1) (n := 0) ⟨hx, hb, hml, hown, htg⟩ (al_met (al_snd 300) 20 181 24 13076 [.ref 116] (([q0] ++ c1) ++ [q1]) (al_G1 ++ [al_e2]) al_G2 kq_q181 rfl rfl rfl (by decide) (by decide) al_run2 kq_q181 rfl) ⟨callB_of 0 htg (mx_good kq_gd (kq_at_in (kq_okWa 181 (by decide) kq_q181 rfl) rfl)) rfl rfl rfl (htg _ (kq_at_in (p := 1013) (by decide +kernel) rfl)) (htg _ (kq_at_in (p := 6071) (by decide +kernel) rfl)) ⟨by decide, by decide, by decide⟩ ⟨by decide, by decide⟩, rfl, htg _ (kq_at_in (p := 6072) (by decide +kernel) rfl)⟩ ⟨al_blind _ (([q0] ++ c1) ++ [q1]) (al_G1 ++ [al_e2]), fun U hU hW => ⟨by show _ = (([Value.ref 116].map (mx_av (al_ad (([q0] ++ c1) ++ [q1])))).toArray); simp only [List.map_cons, List.map_nil, mx_av, e116], by rw [hU]; exact hS3.1, hn2, by rw [hU]; exact hP3, va_K.moved hW.alike hK, hD3, al_Nx_moved hW.alike hN, al_Nt_warm hW hNt⟩⟩ rfl rfl hl.1 rfl (lv_room (Nat.le_of_ble_eq_true rfl)) ld_12 ⟨Nat.le_of_ble_eq_true rfl, Nat.le_of_ble_eq_true rfl⟩) hS3 (fun as2 H4 locs4 hb2 hl2 hP4 hD4 hS4 => ?_)
  obtain ⟨c2, rfl⟩ := hb2
  refine lv_astore_n (lv' := [(2, .ref q1), (1, .ref q0), (0, .ref b)]) hx hb ld_15 rfl hl (by decide) rfl (fun ls hl => ?_)
  refine ls_loop l hL hx hb hr hml hown hts hX hbl hlk hgv hK hl2 hP4 hD4 hS4 ?_
  have g0 : al_ad ((([q0] ++ c1) ++ [q1]) ++ c2) 0 = q0 := rfl
  have g1 : al_ad ((([q0] ++ c1) ++ [q1]) ++ c2) 116 = q1 := by
    rw [al_ad_app _ _ (by rw [hn2, List.length_append, ls_G1]; decide), e116]
  rw [g0, g1]
  exact hl
end LS
