/-! ===== constructors run by the making machine ===== -/
def al_ckT : List (Nat × Nat × Bool × Nat × Nat × Nat) := [(13, 9, false, 104, 0, 1024), (11, 18, false, 57, 1, 1049), (11, 55, false, 0, 1, 2066), (11, 64, false, 37, 1, 2098), (13, 12, false, 181, 0, 6071), (11, 9, true, 101, 0, 1032), (6, 11, true, 7, 0, 1055), (1, 26, true, 54, 0, 1061), (11, 27, true, 7, 0, 2001), (11, 34, true, 44, 0, 2004), (11, 41, true, 82, 0, 2029), (11, 48, true, 32, 0, 2053), (11, 71, true, 91, 0, 2131), (11, 90, true, 78, 0, 2152)]
def al_ct (z : Nat) : Option (Nat × Nat) := mx_look [(0, 5, 80), (7, 14, 105), (32, 1, 8), (37, 5, 32), (44, 2, 12), (54, 6, 48), (57, 15, 120), (78, 1, 60), (82, 5, 20), (91, 2, 264), (101, 1, 1400), (104, 115, 2724), (181, 24, 13076)] z
def al_ck (y idx : Nat) : Option (Bool × Nat × Nat) := (al_ckT.find? fun e => Nat.beq e.1 (kq_cz y) && Nat.beq e.2.1 idx).map fun e => (e.2.2.1, e.2.2.2.1, e.2.2.2.2.1)
def al_cal (y : Nat) (i : Instr) (st : List Value) : Option (Bool × Nat × List Value × List Value) := match i with
  | .invokespecial idx => match al_ck y idx with
    | some (nst, z, n) => match st.drop n with
      | .ref b :: rest => if (st.take n).length = n ∧ (rest.map fun v => v.category).sum ≤ 8 then some (nst, z, .ref b :: (st.take n).reverse, rest) else none
      | _ => none
    | none => none
  | _ => none
abbrev al_Rn : Type := Nat → Nat → Nat → Nat → al_S → Option (List al_E)
def al_stp (run : al_Rn) (d y mc ms : Nat) (S : al_S) : Option al_S := match kq_cd y S.1 with
  | some i => match al_cal y i S.2.2.1 with
    | some (_, z, as, rest) => match d, al_ct z, kq_m z with
      | d' + 1, some (mz, uz), some q => if S.2.2.2.2.1 + mz ≤ mc ∧ S.2.2.2.2.2 + uz ≤ ms ∧ mx_len1 as ≤ q.2.2.1 ∧ al_wf S.2.1 S.2.2.1 S.2.2.2.1 = true then (match run d' z mz uz (0, mx_ent q.2.2.1 as, [], S.2.2.2.1, 0, 0) with
          | some G' => some (S.1 + 3, S.2.1, rest, G', S.2.2.2.2.1 + mz, S.2.2.2.2.2 + uz)
          | none => none) else none
      | _, _, _ => none
    | none => al_ins d y mc ms i S
  | none => none
def al_run : Nat → al_Rn
  | 0 => fun _ _ _ _ _ => none
  | f + 1 => fun d y mc ms S => match kq_cd y S.1, S.2.2.1 with
    | some .return_, [] => if S.2.2.2.2.1 ≤ mc ∧ S.2.2.2.2.2 ≤ ms then some S.2.2.2.1 else none
    | _, _ => match al_stp (al_run f) d y mc ms S with
      | some S' => al_run f d y mc ms S'
      | none => none
/-- the nest's words, which a warm machine keeps -/
def al_Nt (U : State) : Prop := ∀ e ∈ al_ckT, e.2.2.1 = true → ∀ q, kq_m e.2.2.2.1 = some q → va_Nw (.methodLinkNest (kq_cn e.1) e.2.1 q.1 "LevelSunday") U
def al_Wd (base : Nat) (cid : Nat → ClassId) (Dg : va_G) (as : List Nat) (G : List al_E) (U : State) : Prop := base ≤ U.heap.size ∧ as.length = G.length ∧ va_P Dg kq_cl (al_wl (al_ad as) cid as G) U.heap ∧ va_K Dg kq_cl (al_tys cid) U ∧ va_D (mx_A base) (al_wl (al_ad as) cid as G) ∧ al_Nx U ∧ al_Nt U
def al_Q (base : Nat) (cid : Nat → ClassId) (Dg : va_G) (as : List Nat) (G' : List al_E) : Array Value → State → Outcome → State → Prop := fun _ st oc t => oc = .returned none ∧ (∃ as', (∃ b, as' = as ++ b) ∧ al_Wd base cid Dg as' G' t) ∧ va_F (mx_A base) st t
def al_rm (d mc ms : Nat) : Room := { frames := d, cells := mc, slots := ms, locals := 64 * d }
def al_CT (base : Nat) (cid : Nat → ClassId) (Dg : va_G) (l : Launch) (z : Nat) (vs : List Value) (as : List Nat) (G G' : List al_E) (d mc ms : Nat) : Prop :=
  ∀ q : kq_Ty, kq_m z = some q → Met l q.1 (Cond.code q.1 q.2.1 q.2.2.1 q.2.2.2.1 :: kq_GW) (al_rm d mc ms) (va_Pc (vs.map (mx_av (al_ad as))) (al_Wd base cid Dg as G)) (al_Q base cid Dg as G') mc ms (mx_A base)
theorem al_Nt_warm {s U : State} (hW : s.WarmedH U.vm) (h : al_Nt s) : al_Nt U := fun e he hn q hq => va_Nw.warmM hW (h e he hn q hq)
theorem al_Nt_same {s U : State} (hv : s.vm = U.vm) (h : al_Nt s) : al_Nt U := fun e he hn q hq => va_Nw.same rfl hv (h e he hn q hq)
theorem al_Nx_moved {s U : State} (hW : s.vm.Alike U.vm) (h : al_Nx s) : al_Nx U := ⟨va_AO.moved hW h.1, va_AO.moved hW h.2⟩
theorem al_blind {base : Nat} {cid : Nat → ClassId} {Dg : va_G} (vs : List Value) (as : List Nat) (G : List al_E) : FrameBlind (va_Pc vs (al_Wd base cid Dg as G)) := by
  intro a U g mk q
  obtain ⟨q0, q1, q2, qP, qK, qD, qN, qT⟩ := q
  exact ⟨q0, q1, q2, qP, va_K.moved (u := U) (U := U.calling g mk a) (Vm.Alike.refl U.vm) qK, qD, al_Nx_moved (U := U.calling g mk a) (Vm.Alike.refl U.vm) qN, al_Nt_same (U := U.calling g mk a) rfl qT⟩
section AR
variable {cid : Nat → ClassId} {base : Nat} {Dg : va_G} {p : Program} {l : Launch} {e : Env} {R : Room} {s : State} {m : MethodId} {args : Array Value} {below : List Frame} {meth : Method} {c : Code} {H : Heap} {locs : List Loc} {Q : State → Prop} {cells slots mc ms : Nat}
theorem al_call {pc : Nat} {ls : Array Slot} {st0 rest : List Value} {as : List Nat} {G' : List al_E} {a : Array Value} (hr : va_Run p l e R s m args below meth c H locs cells slots mc ms (F0 m pc ls st0) rest (al_Q base cid Dg as G' a) (mx_A base)) (hS : va_S (mx_A base) s.heap H locs)
    (kk : ∀ (as' : List Nat) (H1 : Heap) (locs1 : List Loc), (∃ b, as' = as ++ b) → as'.length = G'.length → va_P Dg kq_cl (al_wl (al_ad as') cid as' G') H1 → va_D (mx_A base) (al_wl (al_ad as') cid as' G') → va_S (mx_A base) s.heap H1 locs1 → W p l e R s m args below meth c H1 locs1 (cells + mc) (slots + ms) Q (F0 m (pc + 3) ls rest)) : W p l e R s m args below meth c H locs cells slots Q (F0 m pc ls st0) := by
  intro T hT X
  obtain ⟨v, st₀, t, T', L, h0, X', hL, e1, e2, ⟨hv, ⟨as', hb, hw⟩, hz, hk⟩, st⟩ := hr T hT X
  obtain rfl : v = none := Outcome.returned.inj hv
  rw [h0] at hz hk
  obtain ⟨t2, a1, b1⟩ := kk as' T'.heap (locs ++ L) hb hw.2.1 (by rw [e1]; exact hw.2.2.1) hw.2.2.2.2.1
    ⟨Nat.le_trans hS.1 (by rw [e1]; exact hz), fun q h1 h2 => by rw [e1, hk q (Nat.lt_of_lt_of_le h1 hS.1) h2]; exact hS.2.1 q h1 h2, fun q hq => by
      rcases List.mem_append.mp hq with h | h
      · exact hS.2.2 q h
      · exact hL q h⟩ T' rfl X'
  exact ⟨t2, st t2 a1, b1⟩
end AR
