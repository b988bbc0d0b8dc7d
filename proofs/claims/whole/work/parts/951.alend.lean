/-! ===== constructors to their ends ===== -/
section AY
variable {cid : Nat → ClassId} {base : Nat} {Dg : va_G} {l : Launch}
def al_Snd (cid : Nat → ClassId) (base : Nat) (Dg : va_G) (l : Launch) (run : al_Rn) : Prop :=
  ∀ (d y mc ms : Nat) (S : al_S) (G' : List al_E), run d y mc ms S = some G' → ∀ (q : kq_Ty), kq_m y = some q → q.2.2.2.1 = none → kq_cz y < 17 → ∀ (p : Program) (e : Env) (s : State) (m : MethodId) (args : Array Value) (below : List Frame) (meth : Method) (c : Code) (H : Heap) (locs : List Loc) (ls : Array Slot) (as0 as : List Nat),
    p.tables.exec = Jvm.exec → c.code = q.2.1 → c.maxLocals = q.2.2.1 → meth.sig.returnType = none → meth.locks = false → s.vm.findClass q.1.cls = some m.cls → (∀ w ∈ kq_GW, w.before args s = true) → va_K Dg kq_cl (al_tys cid) s → al_Nx s → al_Nt s → meth.name = "<init>" → base ≤ s.heap.size →
    (∃ b, as = as0 ++ b) → as.length = S.2.2.2.1.length → va_P Dg kq_cl (al_wl (al_ad as) cid as S.2.2.2.1) H → va_D (mx_A base) (al_wl (al_ad as) cid as S.2.2.2.1) → va_S (mx_A base) s.heap H locs → mx_has (al_ad as) ls q.2.2.1 S.2.1 →
    W p l e (al_rm d mc ms) s m args below meth c H locs S.2.2.2.2.1 S.2.2.2.2.2 (MQ below (al_Q base cid Dg as0 G') args s mc ms (mx_A base)) (F0 m S.1 ls (S.2.2.1.map (mx_av (al_ad as))))
theorem al_met {run : al_Rn} (hrun : al_Snd cid base Dg l run) : al_Met cid base Dg l run := by
  intro d z mc ms vs as G G' q hq hnm hret hz17 hlen h q2 hq2
  rw [hq] at hq2
  cases hq2
  refine Met.ofW (cc := q.2.1) (maxL := q.2.2.1) (ret := q.2.2.2.1) (kq_own hq).1 rfl ?_
  intro p e s m args below meth c s₁ B hml hv
  obtain ⟨rfl, hbase, hl, hP, hK, hD, hN, hT⟩ := hv
  have hts := atoms_spec (ws := Cond.code q.1 q.2.1 q.2.2.1 q.2.2.2.1 :: kq_GW) B.pre
  have hown : s.vm.findClass q.1.cls = some m.cls := findClass_of_methodNamed B.named
  have hin : meth.name = "<init>" := (name_of_methodNamed B.named B.method).1.trans hnm
  rw [lg_entry_eq]
  exact hrun d z mc ms _ G' h q hq hret hz17 p e s m _ below meth c s.heap [] _ as as B.exec B.bytes hml (B.returns.trans hret) B.notSynchronized hown (fun w hw => hts w (List.mem_cons_of_mem _ hw)) hK hN hT hin hbase ⟨[], by simp⟩ hl hP hD va_S.rf (mx_has_ent hlen)
theorem al_snd : ∀ f : Nat, al_Snd cid base Dg l (al_run f) := by
  intro f
  induction f with
  | zero => intro d y mc ms S G' h; cases h
  | succ f ih =>
    intro d y mc ms S G' h q hq hret hz17 p e s m args below meth c H locs ls as0 as hx hb hml hrt hlocks hown hts hK hN hT hin hbase hbx hl hP hD hS hh
    obtain ⟨pc, L, st, G, cells, slots⟩ := S
    simp only [al_run] at h
    split at h
    · rename_i hi
      split at h
      case isFalse => cases h
      rename_i hroom
      cases h
      dsimp only at hl hP hD hh ⊢
      obtain ⟨n, hdec, hlenI⟩ := kq_okCd hq _ _ hi
      obtain rfl : n = 1 := hlenI.resolve_right (by simp [mx_len])
      refine W.widen hroom.1 hroom.2 ?_
      exact W.vret hx hb hrt (fun t ht hW => ⟨rfl, ⟨as, hbx, by rw [ht]; exact Nat.le_trans hbase hS.1, hl, by rw [ht]; exact hP, va_K.moved hW.alike hK, hD, al_Nx_moved hW.alike hN, al_Nt_warm hW hT⟩, hS.F ht⟩) hS.2.2 hdec hlocks
    · split at h
      case h_2 => cases h
      rename_i S' hstp
      refine al_one (al_met ih) hstp hq hz17 ⟨Nat.le_refl _, Nat.le_refl _⟩ ⟨Nat.le_refl _, Nat.le_refl _⟩ hx hb hml hown hts hK hN hT (fun _ => hin) hbase hl hP hD hS hh (fun as' H1 locs1 ls1 hb1 hl1 hP1 hD1 hS1 hh1 => ?_)
      obtain ⟨b1, rfl⟩ := hbx
      obtain ⟨b2, rfl⟩ := hb1
      exact ih d y mc ms S' G' h q hq hret hz17 p e s m args below meth c H1 locs1 ls1 as0 _ hx hb hml hrt hlocks hown hts hK hN hT hin hbase ⟨b1 ++ b2, by rw [List.append_assoc]⟩ hl1 hP1 hD1 hS1 hh1
end AY
def al_eqE : al_E → al_E → Bool
  | .inl a, .inl b => decide (a = b)
  | .inr (.inl a), .inr (.inl b) => decide (a = b)
  | .inr (.inr a), .inr (.inr b) => decide (a = b)
  | _, _ => false
theorem al_eqE_eq : ∀ (x y : al_E), al_eqE x y = true → x = y
  | .inl a, .inl b, h => by rw [of_decide_eq_true h]
  | .inr (.inl a), .inr (.inl b), h => by rw [of_decide_eq_true h]
  | .inr (.inr a), .inr (.inr b), h => by rw [of_decide_eq_true h]
  | .inl a, .inr (.inl b), h => by cases h
  | .inl a, .inr (.inr b), h => by cases h
  | .inr (.inl a), .inl b, h => by cases h
  | .inr (.inr a), .inl b, h => by cases h
  | .inr (.inl a), .inr (.inr b), h => by cases h
  | .inr (.inr a), .inr (.inl b), h => by cases h
def al_eqL : List al_E → List al_E → Bool
  | [], [] => true
  | a :: l, b :: m => al_eqE a b && al_eqL l m
  | _, _ => false
theorem al_eqL_eq : ∀ (x y : List al_E), al_eqL x y = true → x = y
  | [], [], _ => rfl
  | a :: l, b :: m, h => by
    simp only [al_eqL, Bool.and_eq_true] at h
    rw [al_eqE_eq a b h.1, al_eqL_eq l m h.2]
  | [], b :: m, h => by cases h
  | a :: l, [], h => by cases h
theorem al_run_eq {o : Option (List al_E)} {G : List al_E} (h : (match o with
    | some x => al_eqL x G
    | none => false) = true) : o = some G := by
  cases o with
  | none => cases h
  | some x => rw [al_eqL_eq x G h]
def al_G1 : List al_E := [.inr (.inr (11, [.ref 1, .ref 3, .ref 19, .ref 34, .ref 37, .ref 43, .ref 45, .ref 51, .ref 57, .ref 60, .ref 61, .ref 62])), .inr (.inr (10, [.ref 2, .int 0])), .inl (1, 1400, []), .inr (.inr (6, [.ref 4, .int 0, .int (-1), .ref 1, .int 0, .int 0, .int 0, .int 0, .int 0])), .inr (.inr (1, [.int 0, .int 0, .int 0, .int 0, .int 0, .ref 5, .ref 6, .ref 7, .ref 8, .ref 9, .int 0, .ref 16, .int 0, .ref 17, .ref 18])), .inl (0, 4, []), .inl (0, 4, []), .inl (0, 4, []), .inl (0, 20, []), .inr (.inr (5, [.ref 10, .ref 11, .ref 12, .ref 13, .ref 14, .ref 15, .int 0])), .inl (0, 8, []), .inl (0, 8, []), .inl (0, 8, []), .inl (0, 8, []), .inl (0, 8, []), .inl (0, 8, []), .inl (0, 8, []), .inl (0, 5, []), .inl (0, 5, []), .inr (.inr (1, [.int 0, .int 0, .int 0, .int 0, .int 0, .ref 20, .ref 21, .ref 22, .ref 23, .ref 24, .int 0, .ref 31, .int 0, .ref 32, .ref 33])), .inl (0, 4, []), .inl (0, 4, []), .inl (0, 4, []), .inl (0, 20, []), .inr (.inr (5, [.ref 25, .ref 26, .ref 27, .ref 28, .ref 29, .ref 30, .int 0])), .inl (0, 8, []), .inl (0, 8, []), .inl (0, 8, []), .inl (0, 8, []), .inl (0, 8, []), .inl (0, 8, []), .inl (0, 8, []), .inl (0, 5, []), .inl (0, 5, []), .inr (.inr (4, [.ref 35, .ref 36, .int 0, .int 0])), .inl (0, 8, []), .inl (0, 4, []), .inr (.inr (8, [.ref 38, .ref 39, .ref 40, .ref 41, .ref 42])), .inl (0, 4, []), .inl (0, 4, []), .inl (2, 4, []), .inl (0, 4, []), .inl (0, 4, []), .inr (.inr (2, [.ref 44, .int 0])), .inl (0, 8, []), .inr (.inr (0, [.int 0, .ref 19, .ref 46, .ref 47, .ref 48, .ref 49, .ref 50, .int 0])), .inl (0, 8, []), .inl (0, 32, []), .inl (0, 32, []), .inl (0, 4, []), .inl (0, 4, []), .inr (.inr (3, [.ref 52, .int 0, .ref 19, .ref 53, .ref 54, .ref 55, .ref 56, .int 0])), .inl (0, 8, []), .inl (0, 8, []), .inl (0, 8, []), .inl (0, 4, []), .inl (0, 4, []), .inr (.inr (9, [.int 0, .int 0, .ref 58, .ref 59])), .inl (0, 8, []), .inl (0, 256, []), .inr (.inl (4, [some 63, some 78, some 93])), .inl (2, 3, []), .inr (.inl (5, [some 108, some 110, some 112, some 114])), .inr (.inr (1, [.int 0, .int 0, .int 0, .int 0, .int 0, .ref 64, .ref 65, .ref 66, .ref 67, .ref 68, .int 0, .ref 75, .int 0, .ref 76, .ref 77])), .inl (0, 4, []), .inl (0, 4, []), .inl (0, 4, []), .inl (0, 20, []), .inr (.inr (5, [.ref 69, .ref 70, .ref 71, .ref 72, .ref 73, .ref 74, .int 0])), .inl (0, 8, []), .inl (0, 8, []), .inl (0, 8, []), .inl (0, 8, []), .inl (0, 8, []), .inl (0, 8, []), .inl (0, 8, []), .inl (0, 5, []), .inl (0, 5, []), .inr (.inr (1, [.int 0, .int 0, .int 0, .int 0, .int 0, .ref 79, .ref 80, .ref 81, .ref 82, .ref 83, .int 0, .ref 90, .int 0, .ref 91, .ref 92])), .inl (0, 4, []), .inl (0, 4, []), .inl (0, 4, []), .inl (0, 20, []), .inr (.inr (5, [.ref 84, .ref 85, .ref 86, .ref 87, .ref 88, .ref 89, .int 0])), .inl (0, 8, []), .inl (0, 8, []), .inl (0, 8, []), .inl (0, 8, []), .inl (0, 8, []), .inl (0, 8, []), .inl (0, 8, []), .inl (0, 5, []), .inl (0, 5, []), .inr (.inr (1, [.int 0, .int 0, .int 0, .int 0, .int 0, .ref 94, .ref 95, .ref 96, .ref 97, .ref 98, .int 0, .ref 105, .int 0, .ref 106, .ref 107])), .inl (0, 4, []), .inl (0, 4, []), .inl (0, 4, []), .inl (0, 20, []), .inr (.inr (5, [.ref 99, .ref 100, .ref 101, .ref 102, .ref 103, .ref 104, .int 0])), .inl (0, 8, []), .inl (0, 8, []), .inl (0, 8, []), .inl (0, 8, []), .inl (0, 8, []), .inl (0, 8, []), .inl (0, 8, []), .inl (0, 5, []), .inl (0, 5, []), .inr (.inr (7, [.ref 109, .int 0, .int 0, .int 0])), .inl (3, 60, []), .inr (.inr (7, [.ref 111, .int 0, .int 0, .int 0])), .inl (3, 60, []), .inr (.inr (7, [.ref 113, .int 0, .int 0, .int 0])), .inl (3, 60, []), .inr (.inr (7, [.ref 115, .int 0, .int 0, .int 0])), .inl (3, 60, [])]
def al_G2 : List al_E := al_G1 ++ [.inr (.inr (12, [.int 0, .ref 117, .ref 118, .ref 119, .ref 120, .int 0, .ref 121, .int 0, .int 0, .int 0, .int 0, .int 0, .int 0, .int (-1), .ref 122, .ref 123, .ref 124, .ref 125, .ref 126, .int 0, .int 0, .int 0, .ref 127, .ref 128, .ref 129, .ref 130, .int 0, .int 0, .ref 131, .ref 132, .int 0, .ref 133, .ref 134, .ref 135, .long 0, .ref 136, .ref 137, .ref 138, .ref 139, .ref 140])), .inl (0, 106, []), .inl (0, 318, []), .inl (2, 3, []), .inl (1, 1400, []), .inl (0, 5, []), .inl (0, 106, []), .inl (0, 8, []), .inl (0, 4, []), .inl (0, 4, []), .inl (0, 4, []), .inl (0, 8, []), .inl (2, 10000, []), .inl (0, 5, []), .inl (0, 5, []), .inl (0, 8, []), .inl (0, 8, []), .inl (0, 256, []), .inl (0, 256, []), .inl (0, 256, []), .inl (0, 8, []), .inl (0, 4, [(3, (-1)), (2, (-1)), (1, (-1)), (0, (-1))]), .inl (0, 4, []), .inl (3, 240, []), .inl (3, 60, [])]
def al_e1 : al_E := .inr (.inr (11, al_dfs kq_T11 12))
def al_e2 : al_E := .inr (.inr (12, al_dfs kq_T12 40))
set_option maxRecDepth 100000 in
theorem al_run1 : al_run 300 20 104 115 2724 (0, mx_ent 2 [.ref 0], [], [al_e1], 0, 0) = some al_G1 := al_run_eq (by decide +kernel)
set_option maxRecDepth 100000 in
theorem al_run2 : al_run 300 20 181 24 13076 (0, mx_ent 1 [.ref 116], [], al_G1 ++ [al_e2], 0, 0) = some al_G2 := al_run_eq (by decide +kernel)
