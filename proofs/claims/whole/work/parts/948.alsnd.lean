/-! ===== the making machine's instructions are the real one's ===== -/
theorem al_as_congr {ad ad' : Nat → Nat} {n : Nat} (h : ∀ k, k < n → ad' k = ad k) : ∀ (L : mx_L) (i : Nat), L.all (al_okl n) = true → mx_as ad' i L = mx_as ad i L
  | [], i, _ => rfl
  | none :: L, i, hL => by
    simp only [List.all_cons, Bool.and_eq_true] at hL
    exact al_as_congr h L (i + 1) hL.2
  | some v :: L, i, hL => by
    simp only [List.all_cons, Bool.and_eq_true] at hL
    simp only [mx_as, al_av_congr h hL.1, al_as_congr h L (i + 1) hL.2]
theorem al_st_congr {ad ad' : Nat → Nat} {n : Nat} (h : ∀ k, k < n → ad' k = ad k) {st : List Value} (hs : st.all (al_okv n) = true) : st.map (mx_av ad') = st.map (mx_av ad) := List.map_congr_left (fun v hv => al_av_congr h (List.all_eq_true.mp hs v hv))
def al_tys (cid : Nat → ClassId) : List (ClassId × FieldType) := [(cid 0, .int), (cid 1, .byte), (cid 2, .boolean), (cid 3, .long), (cid 4, .object "LevelSunday$Church"), (cid 5, .object "LevelSunday$Row")]
theorem al_RA {s : State} {a b : ClassId} {ty : FieldType} (ha : va_RA s a ty) (hb : va_RA s b ty) : a = b := by
  cases ty with
  | object C =>
    obtain ⟨_, _, _, _, _, h1⟩ := ha
    obtain ⟨_, _, _, _, _, h2⟩ := hb
    rw [h1] at h2
    exact Option.some.inj h2
  | _ =>
    have h1 : s.vm.findClass _ = some a := ha
    have h2 : s.vm.findClass _ = some b := hb
    rw [h1] at h2
    exact Option.some.inj h2
theorem al_go_some {t : Int} {f : Nat → Option al_S} {S : al_S} (h : al_go t f = some S) : ∃ n : Nat, t = (n : Int) ∧ f n = some S := by
  cases t with
  | ofNat n => exact ⟨n, rfl, h⟩
  | negSucc n => cases h
theorem al_nf {t : FieldType} {v : Value} {ad : Nat → Nat} (h1 : narrow t v = v) (h2 : fits t v = true) : narrow t (mx_av ad v) = mx_av ad v ∧ fits t (mx_av ad v) = true := by
  cases v with
  | ref k => cases t <;> first | (simp [fits] at h2; done) | exact ⟨rfl, rfl⟩
  | _ => exact ⟨h1, h2⟩
theorem al_mem1 {w : Cond} {p : Nat} (h : kq_at p = some w) (hg : goodWord w = true) : w ∈ kq_GW := kq_at_in h hg
/-- what is known of the kinds made, of Object's constructor -/
def al_okT (y : Nat) (own : String) : Prop := (∀ idx ci, al_nw y idx = some ci → ∃ q : vw_C, kq_cl[ci]? = some q ∧ Cond.classLink own idx q.1 ∈ kq_GW ∧ Cond.instantiable q.1 q.2.2 ∈ kq_GW ∧ Cond.initialized q.1 ∈ kq_GW) ∧ (∀ idx, al_oi y idx = true → Cond.methodLink own idx Lib.objectInit ∈ kq_GW) ∧ Cond.instanceMethod Lib.objectInit ∈ kq_GW ∧ Cond.code Lib.objectInit ⟨#[0xb1]⟩ 1 none ∈ kq_GW ∧ Cond.arrayClass .int ∈ kq_GW ∧ Cond.arrayClass .byte ∈ kq_GW ∧ Cond.arrayClass .boolean ∈ kq_GW ∧ Cond.arrayClass .long ∈ kq_GW ∧ own = kq_cn (kq_cz y)
def al_Nx (s : State) : Prop := va_AO "LevelSunday$Church" s ∧ va_AO "LevelSunday$Row" s
section AS
variable {cid : Nat → ClassId} {base : Nat} {Dg : va_G} {p : Program} {l : Launch} {e : Env} {R : Room} {s : State} {m : MethodId} {args : Array Value} {below : List Frame} {meth : Method} {c : Code} {H : Heap} {locs : List Loc} {Q : State → Prop}
variable {cc : ByteArray} {own : String} {nL d y pc pc' n mc ms cells slots cells' slots' : Nat} {L L' : mx_L} {st st' : List Value} {G G' : List al_E} {ls : Array Slot} {as : List Nat}
theorem al_ins_snd (hR : d ≤ R.frames ∧ 64 * d ≤ R.locals) (hcs : mc ≤ R.cells ∧ ms ≤ R.slots) (hx : p.tables.exec = Jvm.exec) (hb : c.code = cc) (hml : c.maxLocals = nL) (hown : s.vm.findClass own = some m.cls) (hts : ∀ w ∈ kq_GW, w.before args s = true) (hK : va_K Dg kq_cl (al_tys cid) s) (hN : al_Nx s) (hin : (∃ idx q, kq_fl y idx = some q) → meth.name = "<init>") (hbase : base ≤ s.heap.size)
    (oF : mx_okF kq_fl kq_cl kq_GW y own) (oT : al_okT y own)
    (hlen : as.length = G.length) (hP : va_P Dg kq_cl (al_wl (al_ad as) cid as G) H) (hD : va_D (mx_A base) (al_wl (al_ad as) cid as G)) (hS : va_S (mx_A base) s.heap H locs) (hl : mx_has (al_ad as) ls nL L)
    (i : Instr) (hd : decode cc pc = .ok (i, n)) (hn : n = mx_len i ∨ mx_len i = 0) (h : al_ins d y mc ms i (pc, L, st, G, cells, slots) = some (pc', L', st', G', cells', slots'))
    (kk : ∀ (as' : List Nat) (H1 : Heap) (locs1 : List Loc) (ls1 : Array Slot), (∃ b, as' = as ++ b) → as'.length = G'.length → va_P Dg kq_cl (al_wl (al_ad as') cid as' G') H1 → va_D (mx_A base) (al_wl (al_ad as') cid as' G') → va_S (mx_A base) s.heap H1 locs1 → mx_has (al_ad as') ls1 nL L' → W p l e R s m args below meth c H1 locs1 cells' slots' Q (F0 m pc' ls1 (st'.map (mx_av (al_ad as'))))) :
    W p l e R s m args below meth c H locs cells slots Q (F0 m pc ls (st.map (mx_av (al_ad as)))) := by
  simp only [al_ins] at h
  cases hwf : al_wf L st G with
  | false => rw [hwf] at h; cases h
  | true =>
  rw [hwf] at h
  simp only [cond_true] at h
  simp only [al_wf, Bool.and_eq_true] at hwf
  obtain ⟨⟨wfL, wfs⟩, wfG⟩ := hwf
  have me : ∃ b : List Nat, as = as ++ b := ⟨[], by simp⟩
  have hA : ∀ q : Nat, s.heap.size ≤ q → mx_A base q := fun q hq => Nat.le_trans hbase hq
  -- a new cell at the end
  have push : ∀ {q : Nat} {E0 : al_E} {w : va_W}, (∀ k, k < G.length → al_ad (as ++ [q]) k = al_ad as k) ∧ (w = al_wl (al_ad as) cid as G ++ [(q, al_ce (al_ad (as ++ [q])) cid E0)] → w = al_wl (al_ad (as ++ [q])) cid (as ++ [q]) (G ++ [E0])) := by
    intro q E0 w
    have hc : ∀ k, k < G.length → al_ad (as ++ [q]) k = al_ad as k := fun k hk => al_ad_app as [q] (by rw [hlen]; exact hk)
    refine ⟨hc, fun hw => ?_⟩
    rw [hw, al_wl_push hlen, al_wl_congr hc wfG]
  have has : ∀ {q : Nat}, mx_has (al_ad (as ++ [q])) ls nL L := fun {q} => by
    have hc := (push (q := q) (E0 := .inl (0, 0, [])) (w := [])).1
    refine ⟨?_, hl.2⟩
    rw [al_as_congr hc L 0 wfL]
    exact hl.1
  have hself : al_ad (as ++ [(0 : Nat)]) = al_ad (as ++ [0]) := rfl
  have hnew : ∀ q : Nat, al_ad (as ++ [q]) G.length = q := fun q => by
    unfold al_ad
    rw [List.getD_eq_getElem?_getD, ← hlen, List.getElem?_append_right (Nat.le_refl _), Nat.sub_self]
    rfl
  cases i with
  | iconst k0 =>
    obtain rfl : n = _ := hn.resolve_right (by simp [mx_len])
    simp only [mx_len] at hd
    cases h
    exact lv_iconst hx hb hd rfl (kk as _ _ _ me hlen hP hD hS hl)
  | bipush k0 =>
    obtain rfl : n = _ := hn.resolve_right (by simp [mx_len])
    simp only [mx_len] at hd
    cases h
    exact lv_bipush hx hb hd rfl (kk as _ _ _ me hlen hP hD hS hl)
  | sipush k0 =>
    obtain rfl : n = _ := hn.resolve_right (by simp [mx_len])
    simp only [mx_len] at hd
    cases h
    exact lv_sipush hx hb hd rfl (kk as _ _ _ me hlen hP hD hS hl)
  | iload_n k0 =>
    obtain rfl : n = _ := hn.resolve_right (by simp [mx_len])
    simp only [mx_len] at hd
    simp only at h
    split at h
    · rename_i x hxx
      cases h
      exact lv_iload_n hx hb hd rfl (mx_has_at hl hxx) (kk as _ _ _ me hlen hP hD hS hl)
    · cases h
  | aload_n k0 =>
    obtain rfl : n = _ := hn.resolve_right (by simp [mx_len])
    simp only [mx_len] at hd
    simp only at h
    split at h
    · rename_i x hxx
      cases h
      exact lv_aload_n hx hb hd rfl (mx_has_at hl hxx) (kk as _ _ _ me hlen hP hD hS hl)
    · cases h
  | istore_n k0 =>
    obtain rfl : n = _ := hn.resolve_right (by simp [mx_len])
    simp only [mx_len] at hd
    simp only at h
    split at h
    · split at h
      · rename_i hlt
        cases h
        exact lv_istore_n hx hb hd rfl hl.1 (by rw [← hl.2]; exact hlt) rfl (fun ls1 hl1 => kk as _ _ _ me hlen hP hD hS (mx_has_st1 hl hl1))
      · cases h
    · cases h
  | astore_n k0 =>
    obtain rfl : n = _ := hn.resolve_right (by simp [mx_len])
    simp only [mx_len] at hd
    simp only at h
    split at h
    · split at h
      · rename_i hlt
        cases h
        exact lv_astore_n hx hb hd rfl hl.1 (by rw [← hl.2]; exact hlt) rfl (fun ls1 hl1 => kk as _ _ _ me hlen hP hD hS (mx_has_st1 hl hl1))
      · cases h
    · cases h
  | iinc k0 c0 =>
    obtain rfl : n = _ := hn.resolve_right (by simp [mx_len])
    simp only [mx_len] at hd
    simp only at h
    split at h
    · rename_i x hxx
      cases h
      obtain ⟨k1, hk1⟩ := List.getElem?_of_mem (mx_as_in (ad := al_ad as) L 0 k0 _ hxx)
      rw [Nat.zero_add] at hk1
      exact lv_iinc hx hb hd hl.1 hk1 rfl (by rw [← hl.2]; exact mx_nth_lt hxx) rfl (fun ls1 hl1 => kk as _ _ _ me hlen hP hD hS (mx_has_st1 (v := .int _) hl hl1))
    · cases h
  | dup =>
    obtain rfl : n = _ := hn.resolve_right (by simp [mx_len])
    simp only [mx_len] at hd
    simp only at h
    split at h
    · cases h
      exact lv_dup hx hb hd rfl (kk as _ _ _ me hlen hP hD hS hl)
    · cases h
  | goto off =>
    obtain rfl : n = _ := hn.resolve_right (by simp [mx_len])
    simp only [mx_len] at hd
    simp only at h
    obtain ⟨t, ht, h⟩ := al_go_some h
    cases h
    exact lv_goto hx hb hd ht (kk as _ _ _ me hlen hP hD hS hl)
  | if_icmp c0 off =>
    obtain rfl : n = _ := hn.resolve_right (by simp [mx_len])
    simp only [mx_len] at hd
    cases c0 <;> simp only at h <;> try (cases h; done)
    split at h
    · obtain ⟨t, ht, h⟩ := al_go_some h
      refine lv_icmp_ge hx hb hd ht (fun z => ?_) (fun z => ?_)
      · rw [if_pos z] at h
        cases h
        exact kk as _ _ _ me hlen hP hD hS hl
      · rw [if_neg z] at h
        cases h
        exact kk as _ _ _ me hlen hP hD hS hl
    · cases h
  | new idx =>
    obtain rfl : n = _ := hn.resolve_right (by simp [mx_len])
    simp only [mx_len] at hd
    simp only at h
    split at h
    · rename_i ci hci
      split at h
      · rename_i q hq
        split at h
        · rename_i hroom
          cases h
          obtain ⟨q2, hq2, w1, w2, w3⟩ := oT.1 _ _ hci
          rw [hq] at hq2
          cases hq2
          obtain ⟨cw, ⟨ty0, hty⟩, -⟩ := kq_okC ci q hq
          refine va_new (ci := ci) (fs := al_dfs q.2.1 q.2.2) (N := q.2.2) hx hb hts cw ty0 hty hown (hts _ w1) (hts _ w2) (hts _ w3) hK hP hD hS hA hq (fun j hj => ?_) (by omega) (by omega) hd (fun q0 H1 hP1 hD1 hS1 => ?_)
          · unfold vp_V al_dfs
            rw [List.getD_eq_getElem?_getD, List.getElem?_map, List.getElem?_range hj]
            simp only [Option.map_some, Option.getD_some, hty j hj]
          · have hce : al_ce (al_ad (as ++ [q0])) cid (.inr (.inr (ci, al_dfs q.2.1 q.2.2))) = .inr (ci, al_dfs q.2.1 q.2.2) := by
              simp only [al_ce, al_dfs, List.map_map]
              congr 2
              apply List.map_congr_left
              intro j _
              simp only [Function.comp]
              cases parseFieldDescriptor (q.2.1 j).2.2.1 with
              | none => rfl
              | some t => cases t <;> rfl
            have e1 := (push (q := q0) (E0 := .inr (.inr (ci, al_dfs q.2.1 q.2.2))) (w := al_wl (al_ad as) cid as G ++ [(q0, .inr (ci, al_dfs q.2.1 q.2.2))])).2 (by rw [hce])
            rw [e1] at hP1 hD1
            have := kk (as ++ [q0]) H1 locs ls ⟨[q0], rfl⟩ (by rw [List.length_append, List.length_append, hlen]; rfl) hP1 hD1 hS1 has
            rw [List.map_cons, al_st_congr (push (q := q0) (E0 := .inl (0, 0, [])) (w := [])).1 wfs] at this
            simp only [mx_av, hnew] at this
            exact this
        · cases h
      · cases h
    · cases h
  | newarray ty =>
    obtain rfl : n = _ := hn.resolve_right (by simp [mx_len])
    simp only [mx_len] at hd
    simp only at h
    split at h
    · rename_i n0 r
      split at h
      · cases h
      · rename_i hz
        obtain ⟨z1, hz⟩ := mx_nor hz
        obtain ⟨z2, hz⟩ := mx_nor hz
        obtain ⟨z3, z4⟩ := mx_nor hz
        have z4 := Classical.not_not.mp z4
        cases h
        have wfr : r.all (al_okv G.length) = true := by
          simp only [List.all_cons, Bool.and_eq_true] at wfs
          exact wfs.2
        cases ty <;> simp only [al_tyn] at z2 kk ⊢ <;> try (exact absurd (by decide) z2)
        · refine va_newa (atype := .boolean) (ty := .boolean) (a0 := (n0.toNatClampNeg, .inl (fun _ => 0))) (N' := n0.toNatClampNeg) hx hb (hts _ oT.2.2.2.2.2.2.1) rfl hK hP hD hS hA (fun _ => rfl) z1 rfl (by simp only [componentBytes]; omega) (by omega) (by omega) hd (fun q0 cA H1 hK1 hP1 hD1 hS1 => ?_)
          have hcA : cA = cid 2 := al_RA (hK1.2 6 _ rfl).2 (hK.2 2 _ rfl).2
          subst hcA
          have e1 := (push (q := q0) (E0 := .inl (2, n0.toNatClampNeg, [])) (w := al_wl (al_ad as) cid as G ++ [(q0, .inl (cid 2, (n0.toNatClampNeg, .inl (fun _ => 0))))])).2 rfl
          rw [e1] at hP1 hD1
          have := kk (as ++ [q0]) H1 locs ls ⟨[q0], rfl⟩ (by rw [List.length_append, List.length_append, hlen]; rfl) hP1 hD1 hS1 has
          rw [List.map_cons, al_st_congr (push (q := q0) (E0 := .inl (0, 0, [])) (w := [])).1 wfr] at this
          simp only [mx_av, hnew] at this
          exact this
        · refine va_newa (atype := .byte) (ty := .byte) (a0 := (n0.toNatClampNeg, .inl (fun _ => 0))) (N' := n0.toNatClampNeg) hx hb (hts _ oT.2.2.2.2.2.1) rfl hK hP hD hS hA (fun _ => rfl) z1 rfl (by simp only [componentBytes]; omega) (by omega) (by omega) hd (fun q0 cA H1 hK1 hP1 hD1 hS1 => ?_)
          have hcA : cA = cid 1 := al_RA (hK1.2 6 _ rfl).2 (hK.2 1 _ rfl).2
          subst hcA
          have e1 := (push (q := q0) (E0 := .inl (1, n0.toNatClampNeg, [])) (w := al_wl (al_ad as) cid as G ++ [(q0, .inl (cid 1, (n0.toNatClampNeg, .inl (fun _ => 0))))])).2 rfl
          rw [e1] at hP1 hD1
          have := kk (as ++ [q0]) H1 locs ls ⟨[q0], rfl⟩ (by rw [List.length_append, List.length_append, hlen]; rfl) hP1 hD1 hS1 has
          rw [List.map_cons, al_st_congr (push (q := q0) (E0 := .inl (0, 0, [])) (w := [])).1 wfr] at this
          simp only [mx_av, hnew] at this
          exact this
        · refine va_newa (atype := .int) (ty := .int) (a0 := (n0.toNatClampNeg, .inl (fun _ => 0))) (N' := n0.toNatClampNeg) hx hb (hts _ oT.2.2.2.2.1) rfl hK hP hD hS hA (fun _ => rfl) z1 rfl (by simp only [componentBytes]; omega) (by omega) (by omega) hd (fun q0 cA H1 hK1 hP1 hD1 hS1 => ?_)
          have hcA : cA = cid 0 := al_RA (hK1.2 6 _ rfl).2 (hK.2 0 _ rfl).2
          subst hcA
          have e1 := (push (q := q0) (E0 := .inl (0, n0.toNatClampNeg, [])) (w := al_wl (al_ad as) cid as G ++ [(q0, .inl (cid 0, (n0.toNatClampNeg, .inl (fun _ => 0))))])).2 rfl
          rw [e1] at hP1 hD1
          have := kk (as ++ [q0]) H1 locs ls ⟨[q0], rfl⟩ (by rw [List.length_append, List.length_append, hlen]; rfl) hP1 hD1 hS1 has
          rw [List.map_cons, al_st_congr (push (q := q0) (E0 := .inl (0, 0, [])) (w := [])).1 wfr] at this
          simp only [mx_av, hnew] at this
          exact this
        · refine va_newa (atype := .long) (ty := .long) (a0 := (n0.toNatClampNeg, .inr (.inl (fun _ => 0)))) (N' := n0.toNatClampNeg) hx hb (hts _ oT.2.2.2.2.2.2.2.1) rfl hK hP hD hS hA (fun _ => rfl) z1 rfl (by simp only [componentBytes]; omega) (by omega) (by omega) hd (fun q0 cA H1 hK1 hP1 hD1 hS1 => ?_)
          have hcA : cA = cid 3 := al_RA (hK1.2 6 _ rfl).2 (hK.2 3 _ rfl).2
          subst hcA
          have e1 := (push (q := q0) (E0 := .inl (3, n0.toNatClampNeg, [])) (w := al_wl (al_ad as) cid as G ++ [(q0, .inl (cid 3, (n0.toNatClampNeg, .inr (.inl (fun _ => 0)))))])).2 rfl
          rw [e1] at hP1 hD1
          have := kk (as ++ [q0]) H1 locs ls ⟨[q0], rfl⟩ (by rw [List.length_append, List.length_append, hlen]; rfl) hP1 hD1 hS1 has
          rw [List.map_cons, al_st_congr (push (q := q0) (E0 := .inl (0, 0, [])) (w := [])).1 wfr] at this
          simp only [mx_av, hnew] at this
          exact this
    · cases h
  | anewarray idx =>
    obtain rfl : n = _ := hn.resolve_right (by simp [mx_len])
    simp only [mx_len] at hd
    simp only at h
    split at h
    · rename_i n0 r
      have wfr : r.all (al_okv G.length) = true := by
        simp only [List.all_cons, Bool.and_eq_true] at wfs
        exact wfs.2
      split at h
      · rename_i hci
        split at h
        · cases h
        · rename_i hz
          obtain ⟨z1, hz⟩ := mx_nor hz
          obtain ⟨z3, z4⟩ := mx_nor hz
          have z4 := Classical.not_not.mp z4
          cases h
          obtain ⟨q2, hq2, w1, -, -⟩ := oT.1 _ _ hci
          cases hq2
          refine va_newq (C := "LevelSunday$Church") (N' := n0.toNatClampNeg) hx hb hown (hts _ w1) hN.1 hK hP hD hS hA z1 rfl (by omega) (by omega) (by omega) hd (fun q0 cA H1 hK1 hP1 hD1 hS1 => ?_)
          have hcA : cA = cid 4 := al_RA (hK1.2 6 _ rfl).2 (hK.2 4 _ rfl).2
          subst hcA
          have hce : al_ce (al_ad (as ++ [q0])) cid (.inr (.inl (4, List.replicate n0.toNatClampNeg none))) = .inl (cid 4, n0.toNatClampNeg, .inr (.inr (.inr (.inr (fun _ => none))))) := by
            simp only [al_ce, List.length_replicate]
            congr
            funext j
            rw [List.getD_eq_getElem?_getD, List.getElem?_replicate]
            split <;> rfl
          have e1 := (push (q := q0) (E0 := .inr (.inl (4, List.replicate n0.toNatClampNeg none))) (w := al_wl (al_ad as) cid as G ++ [(q0, .inl (cid 4, n0.toNatClampNeg, .inr (.inr (.inr (.inr (fun _ => none))))))])).2 (by rw [hce])
          rw [e1] at hP1 hD1
          have := kk (as ++ [q0]) H1 locs ls ⟨[q0], rfl⟩ (by rw [List.length_append, List.length_append, hlen]; rfl) hP1 hD1 hS1 has
          rw [List.map_cons, al_st_congr (push (q := q0) (E0 := .inl (0, 0, [])) (w := [])).1 wfr] at this
          simp only [mx_av, hnew] at this
          exact this
      · rename_i hci
        split at h
        · cases h
        · rename_i hz
          obtain ⟨z1, hz⟩ := mx_nor hz
          obtain ⟨z3, z4⟩ := mx_nor hz
          have z4 := Classical.not_not.mp z4
          cases h
          obtain ⟨q2, hq2, w1, -, -⟩ := oT.1 _ _ hci
          cases hq2
          refine va_newq (C := "LevelSunday$Row") (N' := n0.toNatClampNeg) hx hb hown (hts _ w1) hN.2 hK hP hD hS hA z1 rfl (by omega) (by omega) (by omega) hd (fun q0 cA H1 hK1 hP1 hD1 hS1 => ?_)
          have hcA : cA = cid 5 := al_RA (hK1.2 6 _ rfl).2 (hK.2 5 _ rfl).2
          subst hcA
          have hce : al_ce (al_ad (as ++ [q0])) cid (.inr (.inl (5, List.replicate n0.toNatClampNeg none))) = .inl (cid 5, n0.toNatClampNeg, .inr (.inr (.inr (.inr (fun _ => none))))) := by
            simp only [al_ce, List.length_replicate]
            congr
            funext j
            rw [List.getD_eq_getElem?_getD, List.getElem?_replicate]
            split <;> rfl
          have e1 := (push (q := q0) (E0 := .inr (.inl (5, List.replicate n0.toNatClampNeg none))) (w := al_wl (al_ad as) cid as G ++ [(q0, .inl (cid 5, n0.toNatClampNeg, .inr (.inr (.inr (.inr (fun _ => none))))))])).2 (by rw [hce])
          rw [e1] at hP1 hD1
          have := kk (as ++ [q0]) H1 locs ls ⟨[q0], rfl⟩ (by rw [List.length_append, List.length_append, hlen]; rfl) hP1 hD1 hS1 has
          rw [List.map_cons, al_st_congr (push (q := q0) (E0 := .inl (0, 0, [])) (w := [])).1 wfr] at this
          simp only [mx_av, hnew] at this
          exact this
      · cases h
    · cases h
  | getfield idx =>
    obtain rfl : n = _ := hn.resolve_right (by simp [mx_len])
    simp only [mx_len] at hd
    simp only at h
    split at h
    · rename_i a r
      split at h
      · rename_i ci j ty w ci' fs hf hga
        split at h
        · rename_i hci
          subst hci
          split at h
          · rename_i v hv
            cases h
            obtain ⟨q, hq, hj, hw, -⟩ := oF _ _ _ _ _ hf
            obtain ⟨cw, -, -⟩ := kq_okC _ _ hq
            exact va_get hx hb hts cw hown hK hP a (al_wl_get hlen hga) hq j hj (hts _ hw) (fun _ q => q) (by rw [List.getElem?_map, hv]; rfl) hd (kk as _ _ _ me hlen hP hD hS hl)
          · cases h
        · cases h
      · cases h
    · cases h
  | putfield idx =>
    obtain rfl : n = _ := hn.resolve_right (by simp [mx_len])
    simp only [mx_len] at hd
    simp only at h
    split at h
    · rename_i v a r
      split at h
      · rename_i ci j ty w ci' fs hf hga
        split at h
        · rename_i q hq
          split at h
          · rename_i hcond
            obtain ⟨hci, hjl, hpf, hdecl⟩ := hcond
            subst hci
            cases h
            obtain ⟨q2, hq2, hj, hw, -⟩ := oF _ _ _ _ _ hf
            rw [hq] at hq2
            cases hq2
            obtain ⟨cw, ⟨ty0, hty⟩, hnm⟩ := kq_okC _ _ hq
            unfold al_pf at hpf
            rw [hty j hj] at hpf
            simp only [Bool.and_eq_true] at hpf
            obtain ⟨f1, f2⟩ := al_nf (ad := al_ad as) (of_decide_eq_true hpf.1) hpf.2
            have eset : (al_wl (al_ad as) cid as G).set a (as.getD a 0, .inr (ci, (fs.map (mx_av (al_ad as))).set j (mx_av (al_ad as) v))) = al_wl (al_ad as) cid as (G.set a (.inr (.inr (ci, fs.set j v)))) := by
              rw [← al_wl_set hlen (e' := .inr (.inr (ci, fs.set j v)))]
              simp only [al_ce, List.map_set]
            cases hfin : (q.2.1 j).2.2.2 with
            | false =>
              refine va_put hx hb hts cw ty0 hty hnm hown hK hP hD hS a (al_wl_get hlen hga) hq j hj (hts _ hw) (fun _ q => q) hfin (hty j hj) f1 f2 (by rw [List.length_map]; exact hjl) hd (fun H1 locs1 hP1 hD1 hS1 => ?_)
              rw [eset] at hP1 hD1
              exact kk as _ _ _ me (by rw [List.length_set, hlen]) hP1 hD1 hS1 hl
            | true =>
              refine va_putF hx hb hts cw ty0 hty hnm hown hK hP hD hS a (al_wl_get hlen hga) hq j hj (hts _ hw) (fun _ q => q) hfin (hin ⟨_, _, hf⟩) (by rw [hdecl]; exact oT.2.2.2.2.2.2.2.2.symm) (hty j hj) f1 f2 (by rw [List.length_map]; exact hjl) hd (fun H1 locs1 hP1 hD1 hS1 => ?_)
              rw [eset] at hP1 hD1
              exact kk as _ _ _ me (by rw [List.length_set, hlen]) hP1 hD1 hS1 hl
          · cases h
        · cases h
      · cases h
    · cases h
  | iastore =>
    obtain rfl : n = _ := hn.resolve_right (by simp [mx_len])
    simp only [mx_len] at hd
    simp only at h
    split at h
    · rename_i x i0 a r
      split at h
      · rename_i n1 f hga
        split at h
        · cases h
        · rename_i hz
          cases h
          refine va_iast hx hb hK hP hD hS a 0 (al_wl_get hlen hga) rfl hz hd (fun H1 locs1 hP1 hD1 hS1 => ?_)
          have eset : (al_wl (al_ad as) cid as G).set a (as.getD a 0, .inl (cid 0, n1, .inl (upd (al_fn f) i0.toNatClampNeg x))) = al_wl (al_ad as) cid as (G.set a (.inl (0, n1, (i0.toNatClampNeg, x) :: f))) := by
            rw [← al_wl_set hlen (e' := .inl (0, n1, (i0.toNatClampNeg, x) :: f))]
            rfl
          rw [eset] at hP1 hD1
          exact kk as _ _ _ me (by rw [List.length_set, hlen]) hP1 hD1 hS1 hl
      · cases h
    · cases h
  | aastore =>
    obtain rfl : n = _ := hn.resolve_right (by simp [mx_len])
    simp only [mx_len] at hd
    simp only at h
    split at h
    · rename_i v i0 a r
      split at h
      · rename_i rs fs hga hgv
        split at h
        · cases h
        · rename_i hz
          cases h
          refine va_astq (r := ("LevelSunday$Church", kq_T1, 15)) hx hb hK hP hD hS a 4 v 1 (al_wl_get hlen hga) rfl (al_wl_get hlen hgv) rfl hz hd (fun H1 locs1 hP1 hD1 hS1 => ?_)
          have eset : (al_wl (al_ad as) cid as G).set a (as.getD a 0, .inl (cid 4, rs.length, .inr (.inr (.inr (.inr (va_up (fun j => (rs.getD j none).map (al_ad as)) i0.toNatClampNeg (some (as.getD v 0)))))))) = al_wl (al_ad as) cid as (G.set a (.inr (.inl (4, rs.set i0.toNatClampNeg (some v))))) := by
            rw [← al_wl_set hlen (e' := .inr (.inl (4, rs.set i0.toNatClampNeg (some v))))]
            have ef : va_up (fun j => (rs.getD j none).map (al_ad as)) i0.toNatClampNeg (some (as.getD v 0)) = (fun j => ((rs.set i0.toNatClampNeg (some v)).getD j none).map (al_ad as)) := by
              funext j
              simp only [va_up]
              by_cases hj : j = i0.toNatClampNeg
              · subst hj
                have e2 : (rs.set i0.toNatClampNeg (some v)).getD i0.toNatClampNeg none = some v := by
                  rw [List.getD_eq_getElem?_getD, List.getElem?_set_self (Nat.lt_of_not_le (fun q => hz (Or.inr q)))]
                  rfl
                rw [if_pos rfl, e2]
                rfl
              · rw [if_neg hj, List.getD_eq_getElem?_getD, List.getD_eq_getElem?_getD, List.getElem?_set_ne (fun q => hj q.symm)]
            simp only [al_ce, List.length_set, ef]
          rw [eset] at hP1 hD1
          exact kk as _ _ _ me (by rw [List.length_set, hlen]) hP1 hD1 hS1 hl
      · rename_i rs fs hga hgv
        split at h
        · cases h
        · rename_i hz
          cases h
          refine va_astq (r := ("LevelSunday$Row", kq_T7, 4)) hx hb hK hP hD hS a 5 v 7 (al_wl_get hlen hga) rfl (al_wl_get hlen hgv) rfl hz hd (fun H1 locs1 hP1 hD1 hS1 => ?_)
          have eset : (al_wl (al_ad as) cid as G).set a (as.getD a 0, .inl (cid 5, rs.length, .inr (.inr (.inr (.inr (va_up (fun j => (rs.getD j none).map (al_ad as)) i0.toNatClampNeg (some (as.getD v 0)))))))) = al_wl (al_ad as) cid as (G.set a (.inr (.inl (5, rs.set i0.toNatClampNeg (some v))))) := by
            rw [← al_wl_set hlen (e' := .inr (.inl (5, rs.set i0.toNatClampNeg (some v))))]
            have ef : va_up (fun j => (rs.getD j none).map (al_ad as)) i0.toNatClampNeg (some (as.getD v 0)) = (fun j => ((rs.set i0.toNatClampNeg (some v)).getD j none).map (al_ad as)) := by
              funext j
              simp only [va_up]
              by_cases hj : j = i0.toNatClampNeg
              · subst hj
                have e2 : (rs.set i0.toNatClampNeg (some v)).getD i0.toNatClampNeg none = some v := by
                  rw [List.getD_eq_getElem?_getD, List.getElem?_set_self (Nat.lt_of_not_le (fun q => hz (Or.inr q)))]
                  rfl
                rw [if_pos rfl, e2]
                rfl
              · rw [if_neg hj, List.getD_eq_getElem?_getD, List.getD_eq_getElem?_getD, List.getElem?_set_ne (fun q => hj q.symm)]
            simp only [al_ce, List.length_set, ef]
          rw [eset] at hP1 hD1
          exact kk as _ _ _ me (by rw [List.length_set, hlen]) hP1 hD1 hS1 hl
      · cases h
    · cases h
  | invokespecial idx =>
    obtain rfl : n = _ := hn.resolve_right (by simp [mx_len])
    simp only [mx_len] at hd
    simp only at h
    split at h
    · rename_i a r
      split at h
      · rename_i hcond
        obtain ⟨ho, hsum, hd0⟩ := hcond
        cases h
        refine W.objInit hx hb hown (hts _ (oT.2.1 _ ho)) (hts _ oT.2.2.1) (hts _ oT.2.2.2.1) rfl (by rw [hml]; exact hl.1.1) rfl hd (by have := hR.1; omega) ?_ ?_
        · have := lv_room (m := m) (pc := pc) (ls := ls) (rest := (Value.ref a :: st').map (mx_av (al_ad as))) (st := st'.map (mx_av (al_ad as))) (by rw [mx_sum_av]; exact hsum)
          have h2 := hR.2
          refine Nat.le_trans (Nat.add_le_add_right this 12) ?_
          omega
        · exact kk as _ _ _ me hlen hP hD hS hl
      · cases h
    · cases h
  | _ => cases h
end AS
