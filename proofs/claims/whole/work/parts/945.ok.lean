/-! ===== what soundness asks of the tables, out of the checks ===== -/
def kq_okI (y : Nat) : Prop := ∀ q, kq_m y = some q → kq_ckI q.2.1 q.2.2.2.2.2 = true
theorem kq_okI_of {y : Nat} {q0 : kq_Ty} (e : kq_m y = some q0) (h : kq_ckI q0.2.1 q0.2.2.2.2.2 = true) : kq_okI y := fun q hq => by
  rw [e] at hq
  cases hq
  exact h
def kq_okW (y : Nat) : Prop := ∀ q, kq_m y = some q → kq_at (kq_pl y).1 = some (Cond.code q.1 q.2.1 q.2.2.1 q.2.2.2.1)
theorem kq_okW_of {y : Nat} {q0 : kq_Ty} (e : kq_m y = some q0) (h : kq_at (kq_pl y).1 = some (Cond.code q0.1 q0.2.1 q0.2.2.1 q0.2.2.2.1)) : kq_okW y := fun q hq => by
  rw [e] at hq
  cases hq
  exact h
theorem kq_ckI_app {bs : ByteArray} {a b : List (Nat × Instr)} (ha : kq_ckI bs a = true) (hb : kq_ckI bs b = true) : kq_ckI bs (a ++ b) = true := by
  unfold kq_ckI at ha hb ⊢
  rw [List.all_append, ha, hb]
  rfl
theorem kq_dI337 : kq_ckI code kq_c337 = true := (kq_ckI_app kq_dL0 (kq_ckI_app kq_dL1 (kq_ckI_app kq_dL2 (kq_ckI_app kq_dL3 (kq_ckI_app kq_dL4 (kq_ckI_app kq_dL5 (kq_ckI_app kq_dL6 (kq_ckI_app kq_dL7 (kq_ckI_app kq_dL8 (kq_ckI_app kq_dL9 (kq_ckI_app kq_dL10 (kq_ckI_app kq_dL11 (kq_ckI_app kq_dL12 (kq_ckI_app kq_dL13 (kq_ckI_app kq_dL14 (kq_ckI_app kq_dL15 (kq_ckI_app kq_dL16 (kq_ckI_app kq_dL17 (kq_ckI_app kq_dL18 (kq_ckI_app kq_dL19 (kq_ckI_app kq_dL20 (kq_ckI_app kq_dL21 (kq_ckI_app kq_dL22 (kq_ckI_app kq_dL23 (kq_ckI_app kq_dL24 (kq_ckI_app kq_dL25 (kq_ckI_app kq_dL26 (kq_ckI_app kq_dL27 (kq_ckI_app kq_dL28 (kq_ckI_app kq_dL29 (kq_ckI_app kq_dL30 (kq_ckI_app kq_dL31 (kq_ckI_app kq_dL32 (kq_ckI_app kq_dL33 (kq_ckI_app kq_dL34 (kq_ckI_app kq_dL35 (kq_ckI_app kq_dL36 (kq_ckI_app kq_dL37 kq_dL38))))))))))))))))))))))))))))))))))))))
theorem kq_wC0 : kq_at (kq_pl 0).1 = some (Cond.code kq_q0.1 kq_q0.2.1 kq_q0.2.2.1 kq_q0.2.2.2.1) := rfl
theorem kq_wC1 : kq_at (kq_pl 1).1 = some (Cond.code kq_q1.1 kq_q1.2.1 kq_q1.2.2.1 kq_q1.2.2.2.1) := rfl
theorem kq_wC2 : kq_at (kq_pl 2).1 = some (Cond.code kq_q2.1 kq_q2.2.1 kq_q2.2.2.1 kq_q2.2.2.2.1) := rfl
theorem kq_wC3 : kq_at (kq_pl 3).1 = some (Cond.code kq_q3.1 kq_q3.2.1 kq_q3.2.2.1 kq_q3.2.2.2.1) := rfl
theorem kq_wC4 : kq_at (kq_pl 4).1 = some (Cond.code kq_q4.1 kq_q4.2.1 kq_q4.2.2.1 kq_q4.2.2.2.1) := rfl
theorem kq_wC5 : kq_at (kq_pl 5).1 = some (Cond.code kq_q5.1 kq_q5.2.1 kq_q5.2.2.1 kq_q5.2.2.2.1) := rfl
theorem kq_wC6 : kq_at (kq_pl 6).1 = some (Cond.code kq_q6.1 kq_q6.2.1 kq_q6.2.2.1 kq_q6.2.2.2.1) := rfl
theorem kq_wC7 : kq_at (kq_pl 7).1 = some (Cond.code kq_q7.1 kq_q7.2.1 kq_q7.2.2.1 kq_q7.2.2.2.1) := rfl
theorem kq_wC8 : kq_at (kq_pl 8).1 = some (Cond.code kq_q8.1 kq_q8.2.1 kq_q8.2.2.1 kq_q8.2.2.2.1) := rfl
theorem kq_wC9 : kq_at (kq_pl 9).1 = some (Cond.code kq_q9.1 kq_q9.2.1 kq_q9.2.2.1 kq_q9.2.2.2.1) := rfl
theorem kq_wC10 : kq_at (kq_pl 10).1 = some (Cond.code kq_q10.1 kq_q10.2.1 kq_q10.2.2.1 kq_q10.2.2.2.1) := rfl
theorem kq_wC11 : kq_at (kq_pl 11).1 = some (Cond.code kq_q11.1 kq_q11.2.1 kq_q11.2.2.1 kq_q11.2.2.2.1) := rfl
theorem kq_wC12 : kq_at (kq_pl 12).1 = some (Cond.code kq_q12.1 kq_q12.2.1 kq_q12.2.2.1 kq_q12.2.2.2.1) := rfl
theorem kq_wC13 : kq_at (kq_pl 13).1 = some (Cond.code kq_q13.1 kq_q13.2.1 kq_q13.2.2.1 kq_q13.2.2.2.1) := rfl
theorem kq_wC14 : kq_at (kq_pl 14).1 = some (Cond.code kq_q14.1 kq_q14.2.1 kq_q14.2.2.1 kq_q14.2.2.2.1) := rfl
theorem kq_wC15 : kq_at (kq_pl 15).1 = some (Cond.code kq_q15.1 kq_q15.2.1 kq_q15.2.2.1 kq_q15.2.2.2.1) := rfl
theorem kq_wC16 : kq_at (kq_pl 16).1 = some (Cond.code kq_q16.1 kq_q16.2.1 kq_q16.2.2.1 kq_q16.2.2.2.1) := rfl
theorem kq_wC17 : kq_at (kq_pl 17).1 = some (Cond.code kq_q17.1 kq_q17.2.1 kq_q17.2.2.1 kq_q17.2.2.2.1) := rfl
theorem kq_wC18 : kq_at (kq_pl 18).1 = some (Cond.code kq_q18.1 kq_q18.2.1 kq_q18.2.2.1 kq_q18.2.2.2.1) := rfl
theorem kq_wC19 : kq_at (kq_pl 19).1 = some (Cond.code kq_q19.1 kq_q19.2.1 kq_q19.2.2.1 kq_q19.2.2.2.1) := rfl
theorem kq_wC20 : kq_at (kq_pl 20).1 = some (Cond.code kq_q20.1 kq_q20.2.1 kq_q20.2.2.1 kq_q20.2.2.2.1) := rfl
theorem kq_wC21 : kq_at (kq_pl 21).1 = some (Cond.code kq_q21.1 kq_q21.2.1 kq_q21.2.2.1 kq_q21.2.2.2.1) := rfl
theorem kq_wC22 : kq_at (kq_pl 22).1 = some (Cond.code kq_q22.1 kq_q22.2.1 kq_q22.2.2.1 kq_q22.2.2.2.1) := rfl
theorem kq_wC23 : kq_at (kq_pl 23).1 = some (Cond.code kq_q23.1 kq_q23.2.1 kq_q23.2.2.1 kq_q23.2.2.2.1) := rfl
theorem kq_wC24 : kq_at (kq_pl 24).1 = some (Cond.code kq_q24.1 kq_q24.2.1 kq_q24.2.2.1 kq_q24.2.2.2.1) := rfl
theorem kq_wC25 : kq_at (kq_pl 25).1 = some (Cond.code kq_q25.1 kq_q25.2.1 kq_q25.2.2.1 kq_q25.2.2.2.1) := rfl
theorem kq_wC26 : kq_at (kq_pl 26).1 = some (Cond.code kq_q26.1 kq_q26.2.1 kq_q26.2.2.1 kq_q26.2.2.2.1) := rfl
theorem kq_wC27 : kq_at (kq_pl 27).1 = some (Cond.code kq_q27.1 kq_q27.2.1 kq_q27.2.2.1 kq_q27.2.2.2.1) := rfl
theorem kq_wC28 : kq_at (kq_pl 28).1 = some (Cond.code kq_q28.1 kq_q28.2.1 kq_q28.2.2.1 kq_q28.2.2.2.1) := rfl
theorem kq_wC29 : kq_at (kq_pl 29).1 = some (Cond.code kq_q29.1 kq_q29.2.1 kq_q29.2.2.1 kq_q29.2.2.2.1) := rfl
theorem kq_wC30 : kq_at (kq_pl 30).1 = some (Cond.code kq_q30.1 kq_q30.2.1 kq_q30.2.2.1 kq_q30.2.2.2.1) := rfl
theorem kq_wC31 : kq_at (kq_pl 31).1 = some (Cond.code kq_q31.1 kq_q31.2.1 kq_q31.2.2.1 kq_q31.2.2.2.1) := rfl
theorem kq_wC32 : kq_at (kq_pl 32).1 = some (Cond.code kq_q32.1 kq_q32.2.1 kq_q32.2.2.1 kq_q32.2.2.2.1) := rfl
theorem kq_wC33 : kq_at (kq_pl 33).1 = some (Cond.code kq_q33.1 kq_q33.2.1 kq_q33.2.2.1 kq_q33.2.2.2.1) := rfl
theorem kq_wC34 : kq_at (kq_pl 34).1 = some (Cond.code kq_q34.1 kq_q34.2.1 kq_q34.2.2.1 kq_q34.2.2.2.1) := rfl
theorem kq_wC35 : kq_at (kq_pl 35).1 = some (Cond.code kq_q35.1 kq_q35.2.1 kq_q35.2.2.1 kq_q35.2.2.2.1) := rfl
theorem kq_wC36 : kq_at (kq_pl 36).1 = some (Cond.code kq_q36.1 kq_q36.2.1 kq_q36.2.2.1 kq_q36.2.2.2.1) := rfl
theorem kq_wC37 : kq_at (kq_pl 37).1 = some (Cond.code kq_q37.1 kq_q37.2.1 kq_q37.2.2.1 kq_q37.2.2.2.1) := rfl
theorem kq_wC38 : kq_at (kq_pl 38).1 = some (Cond.code kq_q38.1 kq_q38.2.1 kq_q38.2.2.1 kq_q38.2.2.2.1) := rfl
theorem kq_wC39 : kq_at (kq_pl 39).1 = some (Cond.code kq_q39.1 kq_q39.2.1 kq_q39.2.2.1 kq_q39.2.2.2.1) := rfl
theorem kq_wC40 : kq_at (kq_pl 40).1 = some (Cond.code kq_q40.1 kq_q40.2.1 kq_q40.2.2.1 kq_q40.2.2.2.1) := rfl
theorem kq_wC41 : kq_at (kq_pl 41).1 = some (Cond.code kq_q41.1 kq_q41.2.1 kq_q41.2.2.1 kq_q41.2.2.2.1) := rfl
theorem kq_wC42 : kq_at (kq_pl 42).1 = some (Cond.code kq_q42.1 kq_q42.2.1 kq_q42.2.2.1 kq_q42.2.2.2.1) := rfl
theorem kq_wC43 : kq_at (kq_pl 43).1 = some (Cond.code kq_q43.1 kq_q43.2.1 kq_q43.2.2.1 kq_q43.2.2.2.1) := rfl
theorem kq_wC44 : kq_at (kq_pl 44).1 = some (Cond.code kq_q44.1 kq_q44.2.1 kq_q44.2.2.1 kq_q44.2.2.2.1) := rfl
theorem kq_wC45 : kq_at (kq_pl 45).1 = some (Cond.code kq_q45.1 kq_q45.2.1 kq_q45.2.2.1 kq_q45.2.2.2.1) := rfl
theorem kq_wC46 : kq_at (kq_pl 46).1 = some (Cond.code kq_q46.1 kq_q46.2.1 kq_q46.2.2.1 kq_q46.2.2.2.1) := rfl
theorem kq_wC47 : kq_at (kq_pl 47).1 = some (Cond.code kq_q47.1 kq_q47.2.1 kq_q47.2.2.1 kq_q47.2.2.2.1) := rfl
theorem kq_wC48 : kq_at (kq_pl 48).1 = some (Cond.code kq_q48.1 kq_q48.2.1 kq_q48.2.2.1 kq_q48.2.2.2.1) := rfl
theorem kq_wC49 : kq_at (kq_pl 49).1 = some (Cond.code kq_q49.1 kq_q49.2.1 kq_q49.2.2.1 kq_q49.2.2.2.1) := rfl
theorem kq_wC50 : kq_at (kq_pl 50).1 = some (Cond.code kq_q50.1 kq_q50.2.1 kq_q50.2.2.1 kq_q50.2.2.2.1) := rfl
theorem kq_wC51 : kq_at (kq_pl 51).1 = some (Cond.code kq_q51.1 kq_q51.2.1 kq_q51.2.2.1 kq_q51.2.2.2.1) := rfl
theorem kq_wC52 : kq_at (kq_pl 52).1 = some (Cond.code kq_q52.1 kq_q52.2.1 kq_q52.2.2.1 kq_q52.2.2.2.1) := rfl
theorem kq_wC53 : kq_at (kq_pl 53).1 = some (Cond.code kq_q53.1 kq_q53.2.1 kq_q53.2.2.1 kq_q53.2.2.2.1) := rfl
theorem kq_wC54 : kq_at (kq_pl 54).1 = some (Cond.code kq_q54.1 kq_q54.2.1 kq_q54.2.2.1 kq_q54.2.2.2.1) := rfl
theorem kq_wC55 : kq_at (kq_pl 55).1 = some (Cond.code kq_q55.1 kq_q55.2.1 kq_q55.2.2.1 kq_q55.2.2.2.1) := rfl
theorem kq_wC56 : kq_at (kq_pl 56).1 = some (Cond.code kq_q56.1 kq_q56.2.1 kq_q56.2.2.1 kq_q56.2.2.2.1) := rfl
theorem kq_wC57 : kq_at (kq_pl 57).1 = some (Cond.code kq_q57.1 kq_q57.2.1 kq_q57.2.2.1 kq_q57.2.2.2.1) := rfl
theorem kq_wC58 : kq_at (kq_pl 58).1 = some (Cond.code kq_q58.1 kq_q58.2.1 kq_q58.2.2.1 kq_q58.2.2.2.1) := rfl
theorem kq_wC59 : kq_at (kq_pl 59).1 = some (Cond.code kq_q59.1 kq_q59.2.1 kq_q59.2.2.1 kq_q59.2.2.2.1) := rfl
theorem kq_wC60 : kq_at (kq_pl 60).1 = some (Cond.code kq_q60.1 kq_q60.2.1 kq_q60.2.2.1 kq_q60.2.2.2.1) := rfl
theorem kq_wC61 : kq_at (kq_pl 61).1 = some (Cond.code kq_q61.1 kq_q61.2.1 kq_q61.2.2.1 kq_q61.2.2.2.1) := rfl
theorem kq_wC62 : kq_at (kq_pl 62).1 = some (Cond.code kq_q62.1 kq_q62.2.1 kq_q62.2.2.1 kq_q62.2.2.2.1) := rfl
theorem kq_wC63 : kq_at (kq_pl 63).1 = some (Cond.code kq_q63.1 kq_q63.2.1 kq_q63.2.2.1 kq_q63.2.2.2.1) := rfl
theorem kq_wC64 : kq_at (kq_pl 64).1 = some (Cond.code kq_q64.1 kq_q64.2.1 kq_q64.2.2.1 kq_q64.2.2.2.1) := rfl
theorem kq_wC65 : kq_at (kq_pl 65).1 = some (Cond.code kq_q65.1 kq_q65.2.1 kq_q65.2.2.1 kq_q65.2.2.2.1) := rfl
theorem kq_wC66 : kq_at (kq_pl 66).1 = some (Cond.code kq_q66.1 kq_q66.2.1 kq_q66.2.2.1 kq_q66.2.2.2.1) := rfl
theorem kq_wC67 : kq_at (kq_pl 67).1 = some (Cond.code kq_q67.1 kq_q67.2.1 kq_q67.2.2.1 kq_q67.2.2.2.1) := rfl
theorem kq_wC68 : kq_at (kq_pl 68).1 = some (Cond.code kq_q68.1 kq_q68.2.1 kq_q68.2.2.1 kq_q68.2.2.2.1) := rfl
theorem kq_wC69 : kq_at (kq_pl 69).1 = some (Cond.code kq_q69.1 kq_q69.2.1 kq_q69.2.2.1 kq_q69.2.2.2.1) := rfl
theorem kq_wC70 : kq_at (kq_pl 70).1 = some (Cond.code kq_q70.1 kq_q70.2.1 kq_q70.2.2.1 kq_q70.2.2.2.1) := rfl
theorem kq_wC71 : kq_at (kq_pl 71).1 = some (Cond.code kq_q71.1 kq_q71.2.1 kq_q71.2.2.1 kq_q71.2.2.2.1) := rfl
theorem kq_wC72 : kq_at (kq_pl 72).1 = some (Cond.code kq_q72.1 kq_q72.2.1 kq_q72.2.2.1 kq_q72.2.2.2.1) := rfl
theorem kq_wC73 : kq_at (kq_pl 73).1 = some (Cond.code kq_q73.1 kq_q73.2.1 kq_q73.2.2.1 kq_q73.2.2.2.1) := rfl
theorem kq_wC74 : kq_at (kq_pl 74).1 = some (Cond.code kq_q74.1 kq_q74.2.1 kq_q74.2.2.1 kq_q74.2.2.2.1) := rfl
theorem kq_wC75 : kq_at (kq_pl 75).1 = some (Cond.code kq_q75.1 kq_q75.2.1 kq_q75.2.2.1 kq_q75.2.2.2.1) := rfl
theorem kq_wC76 : kq_at (kq_pl 76).1 = some (Cond.code kq_q76.1 kq_q76.2.1 kq_q76.2.2.1 kq_q76.2.2.2.1) := rfl
theorem kq_wC77 : kq_at (kq_pl 77).1 = some (Cond.code kq_q77.1 kq_q77.2.1 kq_q77.2.2.1 kq_q77.2.2.2.1) := rfl
theorem kq_wC78 : kq_at (kq_pl 78).1 = some (Cond.code kq_q78.1 kq_q78.2.1 kq_q78.2.2.1 kq_q78.2.2.2.1) := rfl
theorem kq_wC79 : kq_at (kq_pl 79).1 = some (Cond.code kq_q79.1 kq_q79.2.1 kq_q79.2.2.1 kq_q79.2.2.2.1) := rfl
theorem kq_wC80 : kq_at (kq_pl 80).1 = some (Cond.code kq_q80.1 kq_q80.2.1 kq_q80.2.2.1 kq_q80.2.2.2.1) := rfl
theorem kq_wC81 : kq_at (kq_pl 81).1 = some (Cond.code kq_q81.1 kq_q81.2.1 kq_q81.2.2.1 kq_q81.2.2.2.1) := rfl
theorem kq_wC82 : kq_at (kq_pl 82).1 = some (Cond.code kq_q82.1 kq_q82.2.1 kq_q82.2.2.1 kq_q82.2.2.2.1) := rfl
theorem kq_wC83 : kq_at (kq_pl 83).1 = some (Cond.code kq_q83.1 kq_q83.2.1 kq_q83.2.2.1 kq_q83.2.2.2.1) := rfl
theorem kq_wC84 : kq_at (kq_pl 84).1 = some (Cond.code kq_q84.1 kq_q84.2.1 kq_q84.2.2.1 kq_q84.2.2.2.1) := rfl
theorem kq_wC85 : kq_at (kq_pl 85).1 = some (Cond.code kq_q85.1 kq_q85.2.1 kq_q85.2.2.1 kq_q85.2.2.2.1) := rfl
theorem kq_wC86 : kq_at (kq_pl 86).1 = some (Cond.code kq_q86.1 kq_q86.2.1 kq_q86.2.2.1 kq_q86.2.2.2.1) := rfl
theorem kq_wC87 : kq_at (kq_pl 87).1 = some (Cond.code kq_q87.1 kq_q87.2.1 kq_q87.2.2.1 kq_q87.2.2.2.1) := rfl
theorem kq_wC88 : kq_at (kq_pl 88).1 = some (Cond.code kq_q88.1 kq_q88.2.1 kq_q88.2.2.1 kq_q88.2.2.2.1) := rfl
theorem kq_wC89 : kq_at (kq_pl 89).1 = some (Cond.code kq_q89.1 kq_q89.2.1 kq_q89.2.2.1 kq_q89.2.2.2.1) := rfl
theorem kq_wC90 : kq_at (kq_pl 90).1 = some (Cond.code kq_q90.1 kq_q90.2.1 kq_q90.2.2.1 kq_q90.2.2.2.1) := rfl
theorem kq_wC91 : kq_at (kq_pl 91).1 = some (Cond.code kq_q91.1 kq_q91.2.1 kq_q91.2.2.1 kq_q91.2.2.2.1) := rfl
theorem kq_wC92 : kq_at (kq_pl 92).1 = some (Cond.code kq_q92.1 kq_q92.2.1 kq_q92.2.2.1 kq_q92.2.2.2.1) := rfl
theorem kq_wC93 : kq_at (kq_pl 93).1 = some (Cond.code kq_q93.1 kq_q93.2.1 kq_q93.2.2.1 kq_q93.2.2.2.1) := rfl
theorem kq_wC94 : kq_at (kq_pl 94).1 = some (Cond.code kq_q94.1 kq_q94.2.1 kq_q94.2.2.1 kq_q94.2.2.2.1) := rfl
theorem kq_wC95 : kq_at (kq_pl 95).1 = some (Cond.code kq_q95.1 kq_q95.2.1 kq_q95.2.2.1 kq_q95.2.2.2.1) := rfl
theorem kq_wC96 : kq_at (kq_pl 96).1 = some (Cond.code kq_q96.1 kq_q96.2.1 kq_q96.2.2.1 kq_q96.2.2.2.1) := rfl
theorem kq_wC97 : kq_at (kq_pl 97).1 = some (Cond.code kq_q97.1 kq_q97.2.1 kq_q97.2.2.1 kq_q97.2.2.2.1) := rfl
theorem kq_wC98 : kq_at (kq_pl 98).1 = some (Cond.code kq_q98.1 kq_q98.2.1 kq_q98.2.2.1 kq_q98.2.2.2.1) := rfl
theorem kq_wC99 : kq_at (kq_pl 99).1 = some (Cond.code kq_q99.1 kq_q99.2.1 kq_q99.2.2.1 kq_q99.2.2.2.1) := rfl
theorem kq_wC100 : kq_at (kq_pl 100).1 = some (Cond.code kq_q100.1 kq_q100.2.1 kq_q100.2.2.1 kq_q100.2.2.2.1) := rfl
theorem kq_wC101 : kq_at (kq_pl 101).1 = some (Cond.code kq_q101.1 kq_q101.2.1 kq_q101.2.2.1 kq_q101.2.2.2.1) := rfl
theorem kq_wC102 : kq_at (kq_pl 102).1 = some (Cond.code kq_q102.1 kq_q102.2.1 kq_q102.2.2.1 kq_q102.2.2.2.1) := rfl
theorem kq_wC103 : kq_at (kq_pl 103).1 = some (Cond.code kq_q103.1 kq_q103.2.1 kq_q103.2.2.1 kq_q103.2.2.2.1) := rfl
theorem kq_wC104 : kq_at (kq_pl 104).1 = some (Cond.code kq_q104.1 kq_q104.2.1 kq_q104.2.2.1 kq_q104.2.2.2.1) := rfl
theorem kq_wC105 : kq_at (kq_pl 105).1 = some (Cond.code kq_q105.1 kq_q105.2.1 kq_q105.2.2.1 kq_q105.2.2.2.1) := rfl
theorem kq_wC106 : kq_at (kq_pl 106).1 = some (Cond.code kq_q106.1 kq_q106.2.1 kq_q106.2.2.1 kq_q106.2.2.2.1) := rfl
theorem kq_wC107 : kq_at (kq_pl 107).1 = some (Cond.code kq_q107.1 kq_q107.2.1 kq_q107.2.2.1 kq_q107.2.2.2.1) := rfl
theorem kq_wC108 : kq_at (kq_pl 108).1 = some (Cond.code kq_q108.1 kq_q108.2.1 kq_q108.2.2.1 kq_q108.2.2.2.1) := rfl
theorem kq_wC109 : kq_at (kq_pl 109).1 = some (Cond.code kq_q109.1 kq_q109.2.1 kq_q109.2.2.1 kq_q109.2.2.2.1) := rfl
theorem kq_wC110 : kq_at (kq_pl 110).1 = some (Cond.code kq_q110.1 kq_q110.2.1 kq_q110.2.2.1 kq_q110.2.2.2.1) := rfl
theorem kq_wC111 : kq_at (kq_pl 111).1 = some (Cond.code kq_q111.1 kq_q111.2.1 kq_q111.2.2.1 kq_q111.2.2.2.1) := rfl
theorem kq_wC112 : kq_at (kq_pl 112).1 = some (Cond.code kq_q112.1 kq_q112.2.1 kq_q112.2.2.1 kq_q112.2.2.2.1) := rfl
theorem kq_wC113 : kq_at (kq_pl 113).1 = some (Cond.code kq_q113.1 kq_q113.2.1 kq_q113.2.2.1 kq_q113.2.2.2.1) := rfl
theorem kq_wC114 : kq_at (kq_pl 114).1 = some (Cond.code kq_q114.1 kq_q114.2.1 kq_q114.2.2.1 kq_q114.2.2.2.1) := rfl
theorem kq_wC115 : kq_at (kq_pl 115).1 = some (Cond.code kq_q115.1 kq_q115.2.1 kq_q115.2.2.1 kq_q115.2.2.2.1) := rfl
theorem kq_wC116 : kq_at (kq_pl 116).1 = some (Cond.code kq_q116.1 kq_q116.2.1 kq_q116.2.2.1 kq_q116.2.2.2.1) := rfl
theorem kq_wC117 : kq_at (kq_pl 117).1 = some (Cond.code kq_q117.1 kq_q117.2.1 kq_q117.2.2.1 kq_q117.2.2.2.1) := rfl
theorem kq_wC118 : kq_at (kq_pl 118).1 = some (Cond.code kq_q118.1 kq_q118.2.1 kq_q118.2.2.1 kq_q118.2.2.2.1) := rfl
theorem kq_wC119 : kq_at (kq_pl 119).1 = some (Cond.code kq_q119.1 kq_q119.2.1 kq_q119.2.2.1 kq_q119.2.2.2.1) := rfl
theorem kq_wC120 : kq_at (kq_pl 120).1 = some (Cond.code kq_q120.1 kq_q120.2.1 kq_q120.2.2.1 kq_q120.2.2.2.1) := rfl
theorem kq_wC121 : kq_at (kq_pl 121).1 = some (Cond.code kq_q121.1 kq_q121.2.1 kq_q121.2.2.1 kq_q121.2.2.2.1) := rfl
theorem kq_wC122 : kq_at (kq_pl 122).1 = some (Cond.code kq_q122.1 kq_q122.2.1 kq_q122.2.2.1 kq_q122.2.2.2.1) := rfl
theorem kq_wC123 : kq_at (kq_pl 123).1 = some (Cond.code kq_q123.1 kq_q123.2.1 kq_q123.2.2.1 kq_q123.2.2.2.1) := rfl
theorem kq_wC124 : kq_at (kq_pl 124).1 = some (Cond.code kq_q124.1 kq_q124.2.1 kq_q124.2.2.1 kq_q124.2.2.2.1) := rfl
theorem kq_wC125 : kq_at (kq_pl 125).1 = some (Cond.code kq_q125.1 kq_q125.2.1 kq_q125.2.2.1 kq_q125.2.2.2.1) := rfl
theorem kq_wC126 : kq_at (kq_pl 126).1 = some (Cond.code kq_q126.1 kq_q126.2.1 kq_q126.2.2.1 kq_q126.2.2.2.1) := rfl
theorem kq_wC127 : kq_at (kq_pl 127).1 = some (Cond.code kq_q127.1 kq_q127.2.1 kq_q127.2.2.1 kq_q127.2.2.2.1) := rfl
theorem kq_wC128 : kq_at (kq_pl 128).1 = some (Cond.code kq_q128.1 kq_q128.2.1 kq_q128.2.2.1 kq_q128.2.2.2.1) := rfl
theorem kq_wC129 : kq_at (kq_pl 129).1 = some (Cond.code kq_q129.1 kq_q129.2.1 kq_q129.2.2.1 kq_q129.2.2.2.1) := rfl
theorem kq_wC130 : kq_at (kq_pl 130).1 = some (Cond.code kq_q130.1 kq_q130.2.1 kq_q130.2.2.1 kq_q130.2.2.2.1) := rfl
theorem kq_wC131 : kq_at (kq_pl 131).1 = some (Cond.code kq_q131.1 kq_q131.2.1 kq_q131.2.2.1 kq_q131.2.2.2.1) := rfl
theorem kq_wC132 : kq_at (kq_pl 132).1 = some (Cond.code kq_q132.1 kq_q132.2.1 kq_q132.2.2.1 kq_q132.2.2.2.1) := rfl
theorem kq_wC133 : kq_at (kq_pl 133).1 = some (Cond.code kq_q133.1 kq_q133.2.1 kq_q133.2.2.1 kq_q133.2.2.2.1) := rfl
theorem kq_wC134 : kq_at (kq_pl 134).1 = some (Cond.code kq_q134.1 kq_q134.2.1 kq_q134.2.2.1 kq_q134.2.2.2.1) := rfl
theorem kq_wC135 : kq_at (kq_pl 135).1 = some (Cond.code kq_q135.1 kq_q135.2.1 kq_q135.2.2.1 kq_q135.2.2.2.1) := rfl
theorem kq_wC136 : kq_at (kq_pl 136).1 = some (Cond.code kq_q136.1 kq_q136.2.1 kq_q136.2.2.1 kq_q136.2.2.2.1) := rfl
theorem kq_wC137 : kq_at (kq_pl 137).1 = some (Cond.code kq_q137.1 kq_q137.2.1 kq_q137.2.2.1 kq_q137.2.2.2.1) := rfl
theorem kq_wC138 : kq_at (kq_pl 138).1 = some (Cond.code kq_q138.1 kq_q138.2.1 kq_q138.2.2.1 kq_q138.2.2.2.1) := rfl
theorem kq_wC139 : kq_at (kq_pl 139).1 = some (Cond.code kq_q139.1 kq_q139.2.1 kq_q139.2.2.1 kq_q139.2.2.2.1) := rfl
theorem kq_wC140 : kq_at (kq_pl 140).1 = some (Cond.code kq_q140.1 kq_q140.2.1 kq_q140.2.2.1 kq_q140.2.2.2.1) := rfl
theorem kq_wC141 : kq_at (kq_pl 141).1 = some (Cond.code kq_q141.1 kq_q141.2.1 kq_q141.2.2.1 kq_q141.2.2.2.1) := rfl
theorem kq_wC142 : kq_at (kq_pl 142).1 = some (Cond.code kq_q142.1 kq_q142.2.1 kq_q142.2.2.1 kq_q142.2.2.2.1) := rfl
theorem kq_wC143 : kq_at (kq_pl 143).1 = some (Cond.code kq_q143.1 kq_q143.2.1 kq_q143.2.2.1 kq_q143.2.2.2.1) := rfl
theorem kq_wC144 : kq_at (kq_pl 144).1 = some (Cond.code kq_q144.1 kq_q144.2.1 kq_q144.2.2.1 kq_q144.2.2.2.1) := rfl
theorem kq_wC145 : kq_at (kq_pl 145).1 = some (Cond.code kq_q145.1 kq_q145.2.1 kq_q145.2.2.1 kq_q145.2.2.2.1) := rfl
theorem kq_wC146 : kq_at (kq_pl 146).1 = some (Cond.code kq_q146.1 kq_q146.2.1 kq_q146.2.2.1 kq_q146.2.2.2.1) := rfl
theorem kq_wC147 : kq_at (kq_pl 147).1 = some (Cond.code kq_q147.1 kq_q147.2.1 kq_q147.2.2.1 kq_q147.2.2.2.1) := rfl
theorem kq_wC148 : kq_at (kq_pl 148).1 = some (Cond.code kq_q148.1 kq_q148.2.1 kq_q148.2.2.1 kq_q148.2.2.2.1) := rfl
theorem kq_wC149 : kq_at (kq_pl 149).1 = some (Cond.code kq_q149.1 kq_q149.2.1 kq_q149.2.2.1 kq_q149.2.2.2.1) := rfl
theorem kq_wC150 : kq_at (kq_pl 150).1 = some (Cond.code kq_q150.1 kq_q150.2.1 kq_q150.2.2.1 kq_q150.2.2.2.1) := rfl
theorem kq_wC151 : kq_at (kq_pl 151).1 = some (Cond.code kq_q151.1 kq_q151.2.1 kq_q151.2.2.1 kq_q151.2.2.2.1) := rfl
theorem kq_wC152 : kq_at (kq_pl 152).1 = some (Cond.code kq_q152.1 kq_q152.2.1 kq_q152.2.2.1 kq_q152.2.2.2.1) := rfl
theorem kq_wC153 : kq_at (kq_pl 153).1 = some (Cond.code kq_q153.1 kq_q153.2.1 kq_q153.2.2.1 kq_q153.2.2.2.1) := rfl
theorem kq_wC154 : kq_at (kq_pl 154).1 = some (Cond.code kq_q154.1 kq_q154.2.1 kq_q154.2.2.1 kq_q154.2.2.2.1) := rfl
theorem kq_wC155 : kq_at (kq_pl 155).1 = some (Cond.code kq_q155.1 kq_q155.2.1 kq_q155.2.2.1 kq_q155.2.2.2.1) := rfl
theorem kq_wC156 : kq_at (kq_pl 156).1 = some (Cond.code kq_q156.1 kq_q156.2.1 kq_q156.2.2.1 kq_q156.2.2.2.1) := rfl
theorem kq_wC157 : kq_at (kq_pl 157).1 = some (Cond.code kq_q157.1 kq_q157.2.1 kq_q157.2.2.1 kq_q157.2.2.2.1) := rfl
theorem kq_wC158 : kq_at (kq_pl 158).1 = some (Cond.code kq_q158.1 kq_q158.2.1 kq_q158.2.2.1 kq_q158.2.2.2.1) := rfl
theorem kq_wC159 : kq_at (kq_pl 159).1 = some (Cond.code kq_q159.1 kq_q159.2.1 kq_q159.2.2.1 kq_q159.2.2.2.1) := rfl
theorem kq_wC160 : kq_at (kq_pl 160).1 = some (Cond.code kq_q160.1 kq_q160.2.1 kq_q160.2.2.1 kq_q160.2.2.2.1) := rfl
theorem kq_wC161 : kq_at (kq_pl 161).1 = some (Cond.code kq_q161.1 kq_q161.2.1 kq_q161.2.2.1 kq_q161.2.2.2.1) := rfl
theorem kq_wC162 : kq_at (kq_pl 162).1 = some (Cond.code kq_q162.1 kq_q162.2.1 kq_q162.2.2.1 kq_q162.2.2.2.1) := rfl
theorem kq_wC163 : kq_at (kq_pl 163).1 = some (Cond.code kq_q163.1 kq_q163.2.1 kq_q163.2.2.1 kq_q163.2.2.2.1) := rfl
theorem kq_wC164 : kq_at (kq_pl 164).1 = some (Cond.code kq_q164.1 kq_q164.2.1 kq_q164.2.2.1 kq_q164.2.2.2.1) := rfl
theorem kq_wC165 : kq_at (kq_pl 165).1 = some (Cond.code kq_q165.1 kq_q165.2.1 kq_q165.2.2.1 kq_q165.2.2.2.1) := rfl
theorem kq_wC166 : kq_at (kq_pl 166).1 = some (Cond.code kq_q166.1 kq_q166.2.1 kq_q166.2.2.1 kq_q166.2.2.2.1) := rfl
theorem kq_wC167 : kq_at (kq_pl 167).1 = some (Cond.code kq_q167.1 kq_q167.2.1 kq_q167.2.2.1 kq_q167.2.2.2.1) := rfl
theorem kq_wC168 : kq_at (kq_pl 168).1 = some (Cond.code kq_q168.1 kq_q168.2.1 kq_q168.2.2.1 kq_q168.2.2.2.1) := rfl
theorem kq_wC169 : kq_at (kq_pl 169).1 = some (Cond.code kq_q169.1 kq_q169.2.1 kq_q169.2.2.1 kq_q169.2.2.2.1) := rfl
theorem kq_wC170 : kq_at (kq_pl 170).1 = some (Cond.code kq_q170.1 kq_q170.2.1 kq_q170.2.2.1 kq_q170.2.2.2.1) := rfl
theorem kq_wC171 : kq_at (kq_pl 171).1 = some (Cond.code kq_q171.1 kq_q171.2.1 kq_q171.2.2.1 kq_q171.2.2.2.1) := rfl
theorem kq_wC172 : kq_at (kq_pl 172).1 = some (Cond.code kq_q172.1 kq_q172.2.1 kq_q172.2.2.1 kq_q172.2.2.2.1) := rfl
theorem kq_wC173 : kq_at (kq_pl 173).1 = some (Cond.code kq_q173.1 kq_q173.2.1 kq_q173.2.2.1 kq_q173.2.2.2.1) := rfl
theorem kq_wC174 : kq_at (kq_pl 174).1 = some (Cond.code kq_q174.1 kq_q174.2.1 kq_q174.2.2.1 kq_q174.2.2.2.1) := rfl
theorem kq_wC175 : kq_at (kq_pl 175).1 = some (Cond.code kq_q175.1 kq_q175.2.1 kq_q175.2.2.1 kq_q175.2.2.2.1) := rfl
theorem kq_wC176 : kq_at (kq_pl 176).1 = some (Cond.code kq_q176.1 kq_q176.2.1 kq_q176.2.2.1 kq_q176.2.2.2.1) := rfl
theorem kq_wC177 : kq_at (kq_pl 177).1 = some (Cond.code kq_q177.1 kq_q177.2.1 kq_q177.2.2.1 kq_q177.2.2.2.1) := rfl
theorem kq_wC178 : kq_at (kq_pl 178).1 = some (Cond.code kq_q178.1 kq_q178.2.1 kq_q178.2.2.1 kq_q178.2.2.2.1) := rfl
theorem kq_wC179 : kq_at (kq_pl 179).1 = some (Cond.code kq_q179.1 kq_q179.2.1 kq_q179.2.2.1 kq_q179.2.2.2.1) := rfl
theorem kq_wC180 : kq_at (kq_pl 180).1 = some (Cond.code kq_q180.1 kq_q180.2.1 kq_q180.2.2.1 kq_q180.2.2.2.1) := rfl
theorem kq_wC181 : kq_at (kq_pl 181).1 = some (Cond.code kq_q181.1 kq_q181.2.1 kq_q181.2.2.1 kq_q181.2.2.2.1) := rfl
theorem kq_wC182 : kq_at (kq_pl 182).1 = some (Cond.code kq_q182.1 kq_q182.2.1 kq_q182.2.2.1 kq_q182.2.2.2.1) := rfl
theorem kq_wC183 : kq_at (kq_pl 183).1 = some (Cond.code kq_q183.1 kq_q183.2.1 kq_q183.2.2.1 kq_q183.2.2.2.1) := rfl
theorem kq_wC184 : kq_at (kq_pl 184).1 = some (Cond.code kq_q184.1 kq_q184.2.1 kq_q184.2.2.1 kq_q184.2.2.2.1) := rfl
theorem kq_wC185 : kq_at (kq_pl 185).1 = some (Cond.code kq_q185.1 kq_q185.2.1 kq_q185.2.2.1 kq_q185.2.2.2.1) := rfl
theorem kq_wC186 : kq_at (kq_pl 186).1 = some (Cond.code kq_q186.1 kq_q186.2.1 kq_q186.2.2.1 kq_q186.2.2.2.1) := rfl
theorem kq_wC187 : kq_at (kq_pl 187).1 = some (Cond.code kq_q187.1 kq_q187.2.1 kq_q187.2.2.1 kq_q187.2.2.2.1) := rfl
theorem kq_wC188 : kq_at (kq_pl 188).1 = some (Cond.code kq_q188.1 kq_q188.2.1 kq_q188.2.2.1 kq_q188.2.2.2.1) := rfl
theorem kq_wC189 : kq_at (kq_pl 189).1 = some (Cond.code kq_q189.1 kq_q189.2.1 kq_q189.2.2.1 kq_q189.2.2.2.1) := rfl
theorem kq_wC190 : kq_at (kq_pl 190).1 = some (Cond.code kq_q190.1 kq_q190.2.1 kq_q190.2.2.1 kq_q190.2.2.2.1) := rfl
theorem kq_wC191 : kq_at (kq_pl 191).1 = some (Cond.code kq_q191.1 kq_q191.2.1 kq_q191.2.2.1 kq_q191.2.2.2.1) := rfl
theorem kq_wC192 : kq_at (kq_pl 192).1 = some (Cond.code kq_q192.1 kq_q192.2.1 kq_q192.2.2.1 kq_q192.2.2.2.1) := rfl
theorem kq_wC193 : kq_at (kq_pl 193).1 = some (Cond.code kq_q193.1 kq_q193.2.1 kq_q193.2.2.1 kq_q193.2.2.2.1) := rfl
theorem kq_wC194 : kq_at (kq_pl 194).1 = some (Cond.code kq_q194.1 kq_q194.2.1 kq_q194.2.2.1 kq_q194.2.2.2.1) := rfl
theorem kq_wC195 : kq_at (kq_pl 195).1 = some (Cond.code kq_q195.1 kq_q195.2.1 kq_q195.2.2.1 kq_q195.2.2.2.1) := rfl
theorem kq_wC196 : kq_at (kq_pl 196).1 = some (Cond.code kq_q196.1 kq_q196.2.1 kq_q196.2.2.1 kq_q196.2.2.2.1) := rfl
theorem kq_wC197 : kq_at (kq_pl 197).1 = some (Cond.code kq_q197.1 kq_q197.2.1 kq_q197.2.2.1 kq_q197.2.2.2.1) := rfl
theorem kq_wC198 : kq_at (kq_pl 198).1 = some (Cond.code kq_q198.1 kq_q198.2.1 kq_q198.2.2.1 kq_q198.2.2.2.1) := rfl
theorem kq_wC199 : kq_at (kq_pl 199).1 = some (Cond.code kq_q199.1 kq_q199.2.1 kq_q199.2.2.1 kq_q199.2.2.2.1) := rfl
theorem kq_wC200 : kq_at (kq_pl 200).1 = some (Cond.code kq_q200.1 kq_q200.2.1 kq_q200.2.2.1 kq_q200.2.2.2.1) := rfl
theorem kq_wC201 : kq_at (kq_pl 201).1 = some (Cond.code kq_q201.1 kq_q201.2.1 kq_q201.2.2.1 kq_q201.2.2.2.1) := rfl
theorem kq_wC202 : kq_at (kq_pl 202).1 = some (Cond.code kq_q202.1 kq_q202.2.1 kq_q202.2.2.1 kq_q202.2.2.2.1) := rfl
theorem kq_wC203 : kq_at (kq_pl 203).1 = some (Cond.code kq_q203.1 kq_q203.2.1 kq_q203.2.2.1 kq_q203.2.2.2.1) := rfl
theorem kq_wC204 : kq_at (kq_pl 204).1 = some (Cond.code kq_q204.1 kq_q204.2.1 kq_q204.2.2.1 kq_q204.2.2.2.1) := rfl
theorem kq_wC205 : kq_at (kq_pl 205).1 = some (Cond.code kq_q205.1 kq_q205.2.1 kq_q205.2.2.1 kq_q205.2.2.2.1) := rfl
theorem kq_wC206 : kq_at (kq_pl 206).1 = some (Cond.code kq_q206.1 kq_q206.2.1 kq_q206.2.2.1 kq_q206.2.2.2.1) := rfl
theorem kq_wC207 : kq_at (kq_pl 207).1 = some (Cond.code kq_q207.1 kq_q207.2.1 kq_q207.2.2.1 kq_q207.2.2.2.1) := rfl
theorem kq_wC208 : kq_at (kq_pl 208).1 = some (Cond.code kq_q208.1 kq_q208.2.1 kq_q208.2.2.1 kq_q208.2.2.2.1) := rfl
theorem kq_wC209 : kq_at (kq_pl 209).1 = some (Cond.code kq_q209.1 kq_q209.2.1 kq_q209.2.2.1 kq_q209.2.2.2.1) := rfl
theorem kq_wC210 : kq_at (kq_pl 210).1 = some (Cond.code kq_q210.1 kq_q210.2.1 kq_q210.2.2.1 kq_q210.2.2.2.1) := rfl
theorem kq_wC211 : kq_at (kq_pl 211).1 = some (Cond.code kq_q211.1 kq_q211.2.1 kq_q211.2.2.1 kq_q211.2.2.2.1) := rfl
theorem kq_wC212 : kq_at (kq_pl 212).1 = some (Cond.code kq_q212.1 kq_q212.2.1 kq_q212.2.2.1 kq_q212.2.2.2.1) := rfl
theorem kq_wC213 : kq_at (kq_pl 213).1 = some (Cond.code kq_q213.1 kq_q213.2.1 kq_q213.2.2.1 kq_q213.2.2.2.1) := rfl
theorem kq_wC214 : kq_at (kq_pl 214).1 = some (Cond.code kq_q214.1 kq_q214.2.1 kq_q214.2.2.1 kq_q214.2.2.2.1) := rfl
theorem kq_wC215 : kq_at (kq_pl 215).1 = some (Cond.code kq_q215.1 kq_q215.2.1 kq_q215.2.2.1 kq_q215.2.2.2.1) := rfl
theorem kq_wC216 : kq_at (kq_pl 216).1 = some (Cond.code kq_q216.1 kq_q216.2.1 kq_q216.2.2.1 kq_q216.2.2.2.1) := rfl
theorem kq_wC217 : kq_at (kq_pl 217).1 = some (Cond.code kq_q217.1 kq_q217.2.1 kq_q217.2.2.1 kq_q217.2.2.2.1) := rfl
theorem kq_wC218 : kq_at (kq_pl 218).1 = some (Cond.code kq_q218.1 kq_q218.2.1 kq_q218.2.2.1 kq_q218.2.2.2.1) := rfl
theorem kq_wC219 : kq_at (kq_pl 219).1 = some (Cond.code kq_q219.1 kq_q219.2.1 kq_q219.2.2.1 kq_q219.2.2.2.1) := rfl
theorem kq_wC220 : kq_at (kq_pl 220).1 = some (Cond.code kq_q220.1 kq_q220.2.1 kq_q220.2.2.1 kq_q220.2.2.2.1) := rfl
theorem kq_wC221 : kq_at (kq_pl 221).1 = some (Cond.code kq_q221.1 kq_q221.2.1 kq_q221.2.2.1 kq_q221.2.2.2.1) := rfl
theorem kq_wC222 : kq_at (kq_pl 222).1 = some (Cond.code kq_q222.1 kq_q222.2.1 kq_q222.2.2.1 kq_q222.2.2.2.1) := rfl
theorem kq_wC223 : kq_at (kq_pl 223).1 = some (Cond.code kq_q223.1 kq_q223.2.1 kq_q223.2.2.1 kq_q223.2.2.2.1) := rfl
theorem kq_wC224 : kq_at (kq_pl 224).1 = some (Cond.code kq_q224.1 kq_q224.2.1 kq_q224.2.2.1 kq_q224.2.2.2.1) := rfl
theorem kq_wC225 : kq_at (kq_pl 225).1 = some (Cond.code kq_q225.1 kq_q225.2.1 kq_q225.2.2.1 kq_q225.2.2.2.1) := rfl
theorem kq_wC226 : kq_at (kq_pl 226).1 = some (Cond.code kq_q226.1 kq_q226.2.1 kq_q226.2.2.1 kq_q226.2.2.2.1) := rfl
theorem kq_wC227 : kq_at (kq_pl 227).1 = some (Cond.code kq_q227.1 kq_q227.2.1 kq_q227.2.2.1 kq_q227.2.2.2.1) := rfl
theorem kq_wC228 : kq_at (kq_pl 228).1 = some (Cond.code kq_q228.1 kq_q228.2.1 kq_q228.2.2.1 kq_q228.2.2.2.1) := rfl
theorem kq_wC229 : kq_at (kq_pl 229).1 = some (Cond.code kq_q229.1 kq_q229.2.1 kq_q229.2.2.1 kq_q229.2.2.2.1) := rfl
theorem kq_wC230 : kq_at (kq_pl 230).1 = some (Cond.code kq_q230.1 kq_q230.2.1 kq_q230.2.2.1 kq_q230.2.2.2.1) := rfl
theorem kq_wC231 : kq_at (kq_pl 231).1 = some (Cond.code kq_q231.1 kq_q231.2.1 kq_q231.2.2.1 kq_q231.2.2.2.1) := rfl
theorem kq_wC232 : kq_at (kq_pl 232).1 = some (Cond.code kq_q232.1 kq_q232.2.1 kq_q232.2.2.1 kq_q232.2.2.2.1) := rfl
theorem kq_wC233 : kq_at (kq_pl 233).1 = some (Cond.code kq_q233.1 kq_q233.2.1 kq_q233.2.2.1 kq_q233.2.2.2.1) := rfl
theorem kq_wC234 : kq_at (kq_pl 234).1 = some (Cond.code kq_q234.1 kq_q234.2.1 kq_q234.2.2.1 kq_q234.2.2.2.1) := rfl
theorem kq_wC235 : kq_at (kq_pl 235).1 = some (Cond.code kq_q235.1 kq_q235.2.1 kq_q235.2.2.1 kq_q235.2.2.2.1) := rfl
theorem kq_wC236 : kq_at (kq_pl 236).1 = some (Cond.code kq_q236.1 kq_q236.2.1 kq_q236.2.2.1 kq_q236.2.2.2.1) := rfl
theorem kq_wC237 : kq_at (kq_pl 237).1 = some (Cond.code kq_q237.1 kq_q237.2.1 kq_q237.2.2.1 kq_q237.2.2.2.1) := rfl
theorem kq_wC238 : kq_at (kq_pl 238).1 = some (Cond.code kq_q238.1 kq_q238.2.1 kq_q238.2.2.1 kq_q238.2.2.2.1) := rfl
theorem kq_wC239 : kq_at (kq_pl 239).1 = some (Cond.code kq_q239.1 kq_q239.2.1 kq_q239.2.2.1 kq_q239.2.2.2.1) := rfl
theorem kq_wC240 : kq_at (kq_pl 240).1 = some (Cond.code kq_q240.1 kq_q240.2.1 kq_q240.2.2.1 kq_q240.2.2.2.1) := rfl
theorem kq_wC241 : kq_at (kq_pl 241).1 = some (Cond.code kq_q241.1 kq_q241.2.1 kq_q241.2.2.1 kq_q241.2.2.2.1) := rfl
theorem kq_wC242 : kq_at (kq_pl 242).1 = some (Cond.code kq_q242.1 kq_q242.2.1 kq_q242.2.2.1 kq_q242.2.2.2.1) := rfl
theorem kq_wC243 : kq_at (kq_pl 243).1 = some (Cond.code kq_q243.1 kq_q243.2.1 kq_q243.2.2.1 kq_q243.2.2.2.1) := rfl
theorem kq_wC244 : kq_at (kq_pl 244).1 = some (Cond.code kq_q244.1 kq_q244.2.1 kq_q244.2.2.1 kq_q244.2.2.2.1) := rfl
theorem kq_wC245 : kq_at (kq_pl 245).1 = some (Cond.code kq_q245.1 kq_q245.2.1 kq_q245.2.2.1 kq_q245.2.2.2.1) := rfl
theorem kq_wC246 : kq_at (kq_pl 246).1 = some (Cond.code kq_q246.1 kq_q246.2.1 kq_q246.2.2.1 kq_q246.2.2.2.1) := rfl
theorem kq_wC247 : kq_at (kq_pl 247).1 = some (Cond.code kq_q247.1 kq_q247.2.1 kq_q247.2.2.1 kq_q247.2.2.2.1) := rfl
theorem kq_wC248 : kq_at (kq_pl 248).1 = some (Cond.code kq_q248.1 kq_q248.2.1 kq_q248.2.2.1 kq_q248.2.2.2.1) := rfl
theorem kq_wC249 : kq_at (kq_pl 249).1 = some (Cond.code kq_q249.1 kq_q249.2.1 kq_q249.2.2.1 kq_q249.2.2.2.1) := rfl
theorem kq_wC250 : kq_at (kq_pl 250).1 = some (Cond.code kq_q250.1 kq_q250.2.1 kq_q250.2.2.1 kq_q250.2.2.2.1) := rfl
theorem kq_wC251 : kq_at (kq_pl 251).1 = some (Cond.code kq_q251.1 kq_q251.2.1 kq_q251.2.2.1 kq_q251.2.2.2.1) := rfl
theorem kq_wC252 : kq_at (kq_pl 252).1 = some (Cond.code kq_q252.1 kq_q252.2.1 kq_q252.2.2.1 kq_q252.2.2.2.1) := rfl
theorem kq_wC253 : kq_at (kq_pl 253).1 = some (Cond.code kq_q253.1 kq_q253.2.1 kq_q253.2.2.1 kq_q253.2.2.2.1) := rfl
theorem kq_wC254 : kq_at (kq_pl 254).1 = some (Cond.code kq_q254.1 kq_q254.2.1 kq_q254.2.2.1 kq_q254.2.2.2.1) := rfl
theorem kq_wC255 : kq_at (kq_pl 255).1 = some (Cond.code kq_q255.1 kq_q255.2.1 kq_q255.2.2.1 kq_q255.2.2.2.1) := rfl
theorem kq_wC256 : kq_at (kq_pl 256).1 = some (Cond.code kq_q256.1 kq_q256.2.1 kq_q256.2.2.1 kq_q256.2.2.2.1) := rfl
theorem kq_wC257 : kq_at (kq_pl 257).1 = some (Cond.code kq_q257.1 kq_q257.2.1 kq_q257.2.2.1 kq_q257.2.2.2.1) := rfl
theorem kq_wC258 : kq_at (kq_pl 258).1 = some (Cond.code kq_q258.1 kq_q258.2.1 kq_q258.2.2.1 kq_q258.2.2.2.1) := rfl
theorem kq_wC259 : kq_at (kq_pl 259).1 = some (Cond.code kq_q259.1 kq_q259.2.1 kq_q259.2.2.1 kq_q259.2.2.2.1) := rfl
theorem kq_wC260 : kq_at (kq_pl 260).1 = some (Cond.code kq_q260.1 kq_q260.2.1 kq_q260.2.2.1 kq_q260.2.2.2.1) := rfl
theorem kq_wC261 : kq_at (kq_pl 261).1 = some (Cond.code kq_q261.1 kq_q261.2.1 kq_q261.2.2.1 kq_q261.2.2.2.1) := rfl
theorem kq_wC262 : kq_at (kq_pl 262).1 = some (Cond.code kq_q262.1 kq_q262.2.1 kq_q262.2.2.1 kq_q262.2.2.2.1) := rfl
theorem kq_wC263 : kq_at (kq_pl 263).1 = some (Cond.code kq_q263.1 kq_q263.2.1 kq_q263.2.2.1 kq_q263.2.2.2.1) := rfl
theorem kq_wC264 : kq_at (kq_pl 264).1 = some (Cond.code kq_q264.1 kq_q264.2.1 kq_q264.2.2.1 kq_q264.2.2.2.1) := rfl
theorem kq_wC265 : kq_at (kq_pl 265).1 = some (Cond.code kq_q265.1 kq_q265.2.1 kq_q265.2.2.1 kq_q265.2.2.2.1) := rfl
theorem kq_wC266 : kq_at (kq_pl 266).1 = some (Cond.code kq_q266.1 kq_q266.2.1 kq_q266.2.2.1 kq_q266.2.2.2.1) := rfl
theorem kq_wC267 : kq_at (kq_pl 267).1 = some (Cond.code kq_q267.1 kq_q267.2.1 kq_q267.2.2.1 kq_q267.2.2.2.1) := rfl
theorem kq_wC268 : kq_at (kq_pl 268).1 = some (Cond.code kq_q268.1 kq_q268.2.1 kq_q268.2.2.1 kq_q268.2.2.2.1) := rfl
theorem kq_wC269 : kq_at (kq_pl 269).1 = some (Cond.code kq_q269.1 kq_q269.2.1 kq_q269.2.2.1 kq_q269.2.2.2.1) := rfl
theorem kq_wC270 : kq_at (kq_pl 270).1 = some (Cond.code kq_q270.1 kq_q270.2.1 kq_q270.2.2.1 kq_q270.2.2.2.1) := rfl
theorem kq_wC271 : kq_at (kq_pl 271).1 = some (Cond.code kq_q271.1 kq_q271.2.1 kq_q271.2.2.1 kq_q271.2.2.2.1) := rfl
theorem kq_wC272 : kq_at (kq_pl 272).1 = some (Cond.code kq_q272.1 kq_q272.2.1 kq_q272.2.2.1 kq_q272.2.2.2.1) := rfl
theorem kq_wC273 : kq_at (kq_pl 273).1 = some (Cond.code kq_q273.1 kq_q273.2.1 kq_q273.2.2.1 kq_q273.2.2.2.1) := rfl
theorem kq_wC274 : kq_at (kq_pl 274).1 = some (Cond.code kq_q274.1 kq_q274.2.1 kq_q274.2.2.1 kq_q274.2.2.2.1) := rfl
theorem kq_wC275 : kq_at (kq_pl 275).1 = some (Cond.code kq_q275.1 kq_q275.2.1 kq_q275.2.2.1 kq_q275.2.2.2.1) := rfl
theorem kq_wC276 : kq_at (kq_pl 276).1 = some (Cond.code kq_q276.1 kq_q276.2.1 kq_q276.2.2.1 kq_q276.2.2.2.1) := rfl
theorem kq_wC277 : kq_at (kq_pl 277).1 = some (Cond.code kq_q277.1 kq_q277.2.1 kq_q277.2.2.1 kq_q277.2.2.2.1) := rfl
theorem kq_wC278 : kq_at (kq_pl 278).1 = some (Cond.code kq_q278.1 kq_q278.2.1 kq_q278.2.2.1 kq_q278.2.2.2.1) := rfl
theorem kq_wC279 : kq_at (kq_pl 279).1 = some (Cond.code kq_q279.1 kq_q279.2.1 kq_q279.2.2.1 kq_q279.2.2.2.1) := rfl
theorem kq_wC280 : kq_at (kq_pl 280).1 = some (Cond.code kq_q280.1 kq_q280.2.1 kq_q280.2.2.1 kq_q280.2.2.2.1) := rfl
theorem kq_wC281 : kq_at (kq_pl 281).1 = some (Cond.code kq_q281.1 kq_q281.2.1 kq_q281.2.2.1 kq_q281.2.2.2.1) := rfl
theorem kq_wC282 : kq_at (kq_pl 282).1 = some (Cond.code kq_q282.1 kq_q282.2.1 kq_q282.2.2.1 kq_q282.2.2.2.1) := rfl
theorem kq_wC283 : kq_at (kq_pl 283).1 = some (Cond.code kq_q283.1 kq_q283.2.1 kq_q283.2.2.1 kq_q283.2.2.2.1) := rfl
theorem kq_wC284 : kq_at (kq_pl 284).1 = some (Cond.code kq_q284.1 kq_q284.2.1 kq_q284.2.2.1 kq_q284.2.2.2.1) := rfl
theorem kq_wC285 : kq_at (kq_pl 285).1 = some (Cond.code kq_q285.1 kq_q285.2.1 kq_q285.2.2.1 kq_q285.2.2.2.1) := rfl
theorem kq_wC286 : kq_at (kq_pl 286).1 = some (Cond.code kq_q286.1 kq_q286.2.1 kq_q286.2.2.1 kq_q286.2.2.2.1) := rfl
theorem kq_wC287 : kq_at (kq_pl 287).1 = some (Cond.code kq_q287.1 kq_q287.2.1 kq_q287.2.2.1 kq_q287.2.2.2.1) := rfl
theorem kq_wC288 : kq_at (kq_pl 288).1 = some (Cond.code kq_q288.1 kq_q288.2.1 kq_q288.2.2.1 kq_q288.2.2.2.1) := rfl
theorem kq_wC289 : kq_at (kq_pl 289).1 = some (Cond.code kq_q289.1 kq_q289.2.1 kq_q289.2.2.1 kq_q289.2.2.2.1) := rfl
theorem kq_wC290 : kq_at (kq_pl 290).1 = some (Cond.code kq_q290.1 kq_q290.2.1 kq_q290.2.2.1 kq_q290.2.2.2.1) := rfl
theorem kq_wC291 : kq_at (kq_pl 291).1 = some (Cond.code kq_q291.1 kq_q291.2.1 kq_q291.2.2.1 kq_q291.2.2.2.1) := rfl
theorem kq_wC292 : kq_at (kq_pl 292).1 = some (Cond.code kq_q292.1 kq_q292.2.1 kq_q292.2.2.1 kq_q292.2.2.2.1) := rfl
theorem kq_wC293 : kq_at (kq_pl 293).1 = some (Cond.code kq_q293.1 kq_q293.2.1 kq_q293.2.2.1 kq_q293.2.2.2.1) := rfl
theorem kq_wC294 : kq_at (kq_pl 294).1 = some (Cond.code kq_q294.1 kq_q294.2.1 kq_q294.2.2.1 kq_q294.2.2.2.1) := rfl
theorem kq_wC295 : kq_at (kq_pl 295).1 = some (Cond.code kq_q295.1 kq_q295.2.1 kq_q295.2.2.1 kq_q295.2.2.2.1) := rfl
theorem kq_wC296 : kq_at (kq_pl 296).1 = some (Cond.code kq_q296.1 kq_q296.2.1 kq_q296.2.2.1 kq_q296.2.2.2.1) := rfl
theorem kq_wC297 : kq_at (kq_pl 297).1 = some (Cond.code kq_q297.1 kq_q297.2.1 kq_q297.2.2.1 kq_q297.2.2.2.1) := rfl
theorem kq_wC298 : kq_at (kq_pl 298).1 = some (Cond.code kq_q298.1 kq_q298.2.1 kq_q298.2.2.1 kq_q298.2.2.2.1) := rfl
theorem kq_wC299 : kq_at (kq_pl 299).1 = some (Cond.code kq_q299.1 kq_q299.2.1 kq_q299.2.2.1 kq_q299.2.2.2.1) := rfl
theorem kq_wC300 : kq_at (kq_pl 300).1 = some (Cond.code kq_q300.1 kq_q300.2.1 kq_q300.2.2.1 kq_q300.2.2.2.1) := rfl
theorem kq_wC301 : kq_at (kq_pl 301).1 = some (Cond.code kq_q301.1 kq_q301.2.1 kq_q301.2.2.1 kq_q301.2.2.2.1) := rfl
theorem kq_wC302 : kq_at (kq_pl 302).1 = some (Cond.code kq_q302.1 kq_q302.2.1 kq_q302.2.2.1 kq_q302.2.2.2.1) := rfl
theorem kq_wC303 : kq_at (kq_pl 303).1 = some (Cond.code kq_q303.1 kq_q303.2.1 kq_q303.2.2.1 kq_q303.2.2.2.1) := rfl
theorem kq_wC304 : kq_at (kq_pl 304).1 = some (Cond.code kq_q304.1 kq_q304.2.1 kq_q304.2.2.1 kq_q304.2.2.2.1) := rfl
theorem kq_wC305 : kq_at (kq_pl 305).1 = some (Cond.code kq_q305.1 kq_q305.2.1 kq_q305.2.2.1 kq_q305.2.2.2.1) := rfl
theorem kq_wC306 : kq_at (kq_pl 306).1 = some (Cond.code kq_q306.1 kq_q306.2.1 kq_q306.2.2.1 kq_q306.2.2.2.1) := rfl
theorem kq_wC307 : kq_at (kq_pl 307).1 = some (Cond.code kq_q307.1 kq_q307.2.1 kq_q307.2.2.1 kq_q307.2.2.2.1) := rfl
theorem kq_wC308 : kq_at (kq_pl 308).1 = some (Cond.code kq_q308.1 kq_q308.2.1 kq_q308.2.2.1 kq_q308.2.2.2.1) := rfl
theorem kq_wC309 : kq_at (kq_pl 309).1 = some (Cond.code kq_q309.1 kq_q309.2.1 kq_q309.2.2.1 kq_q309.2.2.2.1) := rfl
theorem kq_wC310 : kq_at (kq_pl 310).1 = some (Cond.code kq_q310.1 kq_q310.2.1 kq_q310.2.2.1 kq_q310.2.2.2.1) := rfl
theorem kq_wC311 : kq_at (kq_pl 311).1 = some (Cond.code kq_q311.1 kq_q311.2.1 kq_q311.2.2.1 kq_q311.2.2.2.1) := rfl
theorem kq_wC312 : kq_at (kq_pl 312).1 = some (Cond.code kq_q312.1 kq_q312.2.1 kq_q312.2.2.1 kq_q312.2.2.2.1) := rfl
theorem kq_wC313 : kq_at (kq_pl 313).1 = some (Cond.code kq_q313.1 kq_q313.2.1 kq_q313.2.2.1 kq_q313.2.2.2.1) := rfl
theorem kq_wC314 : kq_at (kq_pl 314).1 = some (Cond.code kq_q314.1 kq_q314.2.1 kq_q314.2.2.1 kq_q314.2.2.2.1) := rfl
theorem kq_wC315 : kq_at (kq_pl 315).1 = some (Cond.code kq_q315.1 kq_q315.2.1 kq_q315.2.2.1 kq_q315.2.2.2.1) := rfl
theorem kq_wC316 : kq_at (kq_pl 316).1 = some (Cond.code kq_q316.1 kq_q316.2.1 kq_q316.2.2.1 kq_q316.2.2.2.1) := rfl
theorem kq_wC317 : kq_at (kq_pl 317).1 = some (Cond.code kq_q317.1 kq_q317.2.1 kq_q317.2.2.1 kq_q317.2.2.2.1) := rfl
theorem kq_wC318 : kq_at (kq_pl 318).1 = some (Cond.code kq_q318.1 kq_q318.2.1 kq_q318.2.2.1 kq_q318.2.2.2.1) := rfl
theorem kq_wC319 : kq_at (kq_pl 319).1 = some (Cond.code kq_q319.1 kq_q319.2.1 kq_q319.2.2.1 kq_q319.2.2.2.1) := rfl
theorem kq_wC320 : kq_at (kq_pl 320).1 = some (Cond.code kq_q320.1 kq_q320.2.1 kq_q320.2.2.1 kq_q320.2.2.2.1) := rfl
theorem kq_wC321 : kq_at (kq_pl 321).1 = some (Cond.code kq_q321.1 kq_q321.2.1 kq_q321.2.2.1 kq_q321.2.2.2.1) := rfl
theorem kq_wC322 : kq_at (kq_pl 322).1 = some (Cond.code kq_q322.1 kq_q322.2.1 kq_q322.2.2.1 kq_q322.2.2.2.1) := rfl
theorem kq_wC323 : kq_at (kq_pl 323).1 = some (Cond.code kq_q323.1 kq_q323.2.1 kq_q323.2.2.1 kq_q323.2.2.2.1) := rfl
theorem kq_wC324 : kq_at (kq_pl 324).1 = some (Cond.code kq_q324.1 kq_q324.2.1 kq_q324.2.2.1 kq_q324.2.2.2.1) := rfl
theorem kq_wC325 : kq_at (kq_pl 325).1 = some (Cond.code kq_q325.1 kq_q325.2.1 kq_q325.2.2.1 kq_q325.2.2.2.1) := rfl
theorem kq_wC326 : kq_at (kq_pl 326).1 = some (Cond.code kq_q326.1 kq_q326.2.1 kq_q326.2.2.1 kq_q326.2.2.2.1) := rfl
theorem kq_wC327 : kq_at (kq_pl 327).1 = some (Cond.code kq_q327.1 kq_q327.2.1 kq_q327.2.2.1 kq_q327.2.2.2.1) := rfl
theorem kq_wC328 : kq_at (kq_pl 328).1 = some (Cond.code kq_q328.1 kq_q328.2.1 kq_q328.2.2.1 kq_q328.2.2.2.1) := rfl
theorem kq_wC329 : kq_at (kq_pl 329).1 = some (Cond.code kq_q329.1 kq_q329.2.1 kq_q329.2.2.1 kq_q329.2.2.2.1) := rfl
theorem kq_wC330 : kq_at (kq_pl 330).1 = some (Cond.code kq_q330.1 kq_q330.2.1 kq_q330.2.2.1 kq_q330.2.2.2.1) := rfl
theorem kq_wC331 : kq_at (kq_pl 331).1 = some (Cond.code kq_q331.1 kq_q331.2.1 kq_q331.2.2.1 kq_q331.2.2.2.1) := rfl
theorem kq_wC332 : kq_at (kq_pl 332).1 = some (Cond.code kq_q332.1 kq_q332.2.1 kq_q332.2.2.1 kq_q332.2.2.2.1) := rfl
theorem kq_wC333 : kq_at (kq_pl 333).1 = some (Cond.code kq_q333.1 kq_q333.2.1 kq_q333.2.2.1 kq_q333.2.2.2.1) := rfl
theorem kq_wC334 : kq_at (kq_pl 334).1 = some (Cond.code kq_q334.1 kq_q334.2.1 kq_q334.2.2.1 kq_q334.2.2.2.1) := rfl
theorem kq_wC335 : kq_at (kq_pl 335).1 = some (Cond.code kq_q335.1 kq_q335.2.1 kq_q335.2.2.1 kq_q335.2.2.2.1) := rfl
theorem kq_wC336 : kq_at (kq_pl 336).1 = some (Cond.code kq_q336.1 kq_q336.2.1 kq_q336.2.2.1 kq_q336.2.2.2.1) := rfl
theorem kq_okIa_0 (y : Nat) (h1 : 0 ≤ y) (h2 : y < 20) : kq_okI y := by
  rcases (show y = 0 ∨ y = 1 ∨ y = 2 ∨ y = 3 ∨ y = 4 ∨ y = 5 ∨ y = 6 ∨ y = 7 ∨ y = 8 ∨ y = 9 ∨ y = 10 ∨ y = 11 ∨ y = 12 ∨ y = 13 ∨ y = 14 ∨ y = 15 ∨ y = 16 ∨ y = 17 ∨ y = 18 ∨ y = 19 by omega) with rfl | rfl | rfl | rfl | rfl | rfl | rfl | rfl | rfl | rfl | rfl | rfl | rfl | rfl | rfl | rfl | rfl | rfl | rfl | rfl
  · exact kq_okI_of (q0 := kq_q0) rfl kq_dI0
  · exact kq_okI_of (q0 := kq_q1) rfl kq_dI1
  · exact kq_okI_of (q0 := kq_q2) rfl kq_dI2
  · exact kq_okI_of (q0 := kq_q3) rfl kq_dI3
  · exact kq_okI_of (q0 := kq_q4) rfl kq_dI4
  · exact kq_okI_of (q0 := kq_q5) rfl kq_dI5
  · exact kq_okI_of (q0 := kq_q6) rfl kq_dI6
  · exact kq_okI_of (q0 := kq_q7) rfl kq_dI7
  · exact kq_okI_of (q0 := kq_q8) rfl kq_dI8
  · exact kq_okI_of (q0 := kq_q9) rfl kq_dI9
  · exact kq_okI_of (q0 := kq_q10) rfl kq_dI10
  · exact kq_okI_of (q0 := kq_q11) rfl kq_dI11
  · exact kq_okI_of (q0 := kq_q12) rfl kq_dI12
  · exact kq_okI_of (q0 := kq_q13) rfl kq_dI13
  · exact kq_okI_of (q0 := kq_q14) rfl kq_dI14
  · exact kq_okI_of (q0 := kq_q15) rfl kq_dI15
  · exact kq_okI_of (q0 := kq_q16) rfl kq_dI16
  · exact kq_okI_of (q0 := kq_q17) rfl kq_dI17
  · exact kq_okI_of (q0 := kq_q18) rfl kq_dI18
  · exact kq_okI_of (q0 := kq_q19) rfl kq_dI19
theorem kq_okIa_20 (y : Nat) (h1 : 20 ≤ y) (h2 : y < 40) : kq_okI y := by
  rcases (show y = 20 ∨ y = 21 ∨ y = 22 ∨ y = 23 ∨ y = 24 ∨ y = 25 ∨ y = 26 ∨ y = 27 ∨ y = 28 ∨ y = 29 ∨ y = 30 ∨ y = 31 ∨ y = 32 ∨ y = 33 ∨ y = 34 ∨ y = 35 ∨ y = 36 ∨ y = 37 ∨ y = 38 ∨ y = 39 by omega) with rfl | rfl | rfl | rfl | rfl | rfl | rfl | rfl | rfl | rfl | rfl | rfl | rfl | rfl | rfl | rfl | rfl | rfl | rfl | rfl
  · exact kq_okI_of (q0 := kq_q20) rfl kq_dI20
  · exact kq_okI_of (q0 := kq_q21) rfl kq_dI21
  · exact kq_okI_of (q0 := kq_q22) rfl kq_dI22
  · exact kq_okI_of (q0 := kq_q23) rfl kq_dI23
  · exact kq_okI_of (q0 := kq_q24) rfl kq_dI24
  · exact kq_okI_of (q0 := kq_q25) rfl kq_dI25
  · exact kq_okI_of (q0 := kq_q26) rfl kq_dI26
  · exact kq_okI_of (q0 := kq_q27) rfl kq_dI27
  · exact kq_okI_of (q0 := kq_q28) rfl kq_dI28
  · exact kq_okI_of (q0 := kq_q29) rfl kq_dI29
  · exact kq_okI_of (q0 := kq_q30) rfl kq_dI30
  · exact kq_okI_of (q0 := kq_q31) rfl kq_dI31
  · exact kq_okI_of (q0 := kq_q32) rfl kq_dI32
  · exact kq_okI_of (q0 := kq_q33) rfl kq_dI33
  · exact kq_okI_of (q0 := kq_q34) rfl kq_dI34
  · exact kq_okI_of (q0 := kq_q35) rfl kq_dI35
  · exact kq_okI_of (q0 := kq_q36) rfl kq_dI36
  · exact kq_okI_of (q0 := kq_q37) rfl kq_dI37
  · exact kq_okI_of (q0 := kq_q38) rfl kq_dI38
  · exact kq_okI_of (q0 := kq_q39) rfl kq_dI39
theorem kq_okIa_40 (y : Nat) (h1 : 40 ≤ y) (h2 : y < 60) : kq_okI y := by
  rcases (show y = 40 ∨ y = 41 ∨ y = 42 ∨ y = 43 ∨ y = 44 ∨ y = 45 ∨ y = 46 ∨ y = 47 ∨ y = 48 ∨ y = 49 ∨ y = 50 ∨ y = 51 ∨ y = 52 ∨ y = 53 ∨ y = 54 ∨ y = 55 ∨ y = 56 ∨ y = 57 ∨ y = 58 ∨ y = 59 by omega) with rfl | rfl | rfl | rfl | rfl | rfl | rfl | rfl | rfl | rfl | rfl | rfl | rfl | rfl | rfl | rfl | rfl | rfl | rfl | rfl
  · exact kq_okI_of (q0 := kq_q40) rfl kq_dI40
  · exact kq_okI_of (q0 := kq_q41) rfl kq_dI41
  · exact kq_okI_of (q0 := kq_q42) rfl kq_dI42
  · exact kq_okI_of (q0 := kq_q43) rfl kq_dI43
  · exact kq_okI_of (q0 := kq_q44) rfl kq_dI44
  · exact kq_okI_of (q0 := kq_q45) rfl kq_dI45
  · exact kq_okI_of (q0 := kq_q46) rfl kq_dI46
  · exact kq_okI_of (q0 := kq_q47) rfl kq_dI47
  · exact kq_okI_of (q0 := kq_q48) rfl kq_dI48
  · exact kq_okI_of (q0 := kq_q49) rfl kq_dI49
  · exact kq_okI_of (q0 := kq_q50) rfl kq_dI50
  · exact kq_okI_of (q0 := kq_q51) rfl kq_dI51
  · exact kq_okI_of (q0 := kq_q52) rfl kq_dI52
  · exact kq_okI_of (q0 := kq_q53) rfl kq_dI53
  · exact kq_okI_of (q0 := kq_q54) rfl kq_dI54
  · exact kq_okI_of (q0 := kq_q55) rfl kq_dI55
  · exact kq_okI_of (q0 := kq_q56) rfl kq_dI56
  · exact kq_okI_of (q0 := kq_q57) rfl kq_dI57
  · exact kq_okI_of (q0 := kq_q58) rfl kq_dI58
  · exact kq_okI_of (q0 := kq_q59) rfl kq_dI59
theorem kq_okIa_60 (y : Nat) (h1 : 60 ≤ y) (h2 : y < 80) : kq_okI y := by
  rcases (show y = 60 ∨ y = 61 ∨ y = 62 ∨ y = 63 ∨ y = 64 ∨ y = 65 ∨ y = 66 ∨ y = 67 ∨ y = 68 ∨ y = 69 ∨ y = 70 ∨ y = 71 ∨ y = 72 ∨ y = 73 ∨ y = 74 ∨ y = 75 ∨ y = 76 ∨ y = 77 ∨ y = 78 ∨ y = 79 by omega) with rfl | rfl | rfl | rfl | rfl | rfl | rfl | rfl | rfl | rfl | rfl | rfl | rfl | rfl | rfl | rfl | rfl | rfl | rfl | rfl
  · exact kq_okI_of (q0 := kq_q60) rfl kq_dI60
  · exact kq_okI_of (q0 := kq_q61) rfl kq_dI61
  · exact kq_okI_of (q0 := kq_q62) rfl kq_dI62
  · exact kq_okI_of (q0 := kq_q63) rfl kq_dI63
  · exact kq_okI_of (q0 := kq_q64) rfl kq_dI64
  · exact kq_okI_of (q0 := kq_q65) rfl kq_dI65
  · exact kq_okI_of (q0 := kq_q66) rfl kq_dI66
  · exact kq_okI_of (q0 := kq_q67) rfl kq_dI67
  · exact kq_okI_of (q0 := kq_q68) rfl kq_dI68
  · exact kq_okI_of (q0 := kq_q69) rfl kq_dI69
  · exact kq_okI_of (q0 := kq_q70) rfl kq_dI70
  · exact kq_okI_of (q0 := kq_q71) rfl kq_dI71
  · exact kq_okI_of (q0 := kq_q72) rfl kq_dI72
  · exact kq_okI_of (q0 := kq_q73) rfl kq_dI73
  · exact kq_okI_of (q0 := kq_q74) rfl kq_dI74
  · exact kq_okI_of (q0 := kq_q75) rfl kq_dI75
  · exact kq_okI_of (q0 := kq_q76) rfl kq_dI76
  · exact kq_okI_of (q0 := kq_q77) rfl kq_dI77
  · exact kq_okI_of (q0 := kq_q78) rfl kq_dI78
  · exact kq_okI_of (q0 := kq_q79) rfl kq_dI79
theorem kq_okIa_80 (y : Nat) (h1 : 80 ≤ y) (h2 : y < 100) : kq_okI y := by
  rcases (show y = 80 ∨ y = 81 ∨ y = 82 ∨ y = 83 ∨ y = 84 ∨ y = 85 ∨ y = 86 ∨ y = 87 ∨ y = 88 ∨ y = 89 ∨ y = 90 ∨ y = 91 ∨ y = 92 ∨ y = 93 ∨ y = 94 ∨ y = 95 ∨ y = 96 ∨ y = 97 ∨ y = 98 ∨ y = 99 by omega) with rfl | rfl | rfl | rfl | rfl | rfl | rfl | rfl | rfl | rfl | rfl | rfl | rfl | rfl | rfl | rfl | rfl | rfl | rfl | rfl
  · exact kq_okI_of (q0 := kq_q80) rfl kq_dI80
  · exact kq_okI_of (q0 := kq_q81) rfl kq_dI81
  · exact kq_okI_of (q0 := kq_q82) rfl kq_dI82
  · exact kq_okI_of (q0 := kq_q83) rfl kq_dI83
  · exact kq_okI_of (q0 := kq_q84) rfl kq_dI84
  · exact kq_okI_of (q0 := kq_q85) rfl kq_dI85
  · exact kq_okI_of (q0 := kq_q86) rfl kq_dI86
  · exact kq_okI_of (q0 := kq_q87) rfl kq_dI87
  · exact kq_okI_of (q0 := kq_q88) rfl kq_dI88
  · exact kq_okI_of (q0 := kq_q89) rfl kq_dI89
  · exact kq_okI_of (q0 := kq_q90) rfl kq_dI90
  · exact kq_okI_of (q0 := kq_q91) rfl kq_dI91
  · exact kq_okI_of (q0 := kq_q92) rfl kq_dI92
  · exact kq_okI_of (q0 := kq_q93) rfl kq_dI93
  · exact kq_okI_of (q0 := kq_q94) rfl kq_dI94
  · exact kq_okI_of (q0 := kq_q95) rfl kq_dI95
  · exact kq_okI_of (q0 := kq_q96) rfl kq_dI96
  · exact kq_okI_of (q0 := kq_q97) rfl kq_dI97
  · exact kq_okI_of (q0 := kq_q98) rfl kq_dI98
  · exact kq_okI_of (q0 := kq_q99) rfl kq_dI99
theorem kq_okIa_100 (y : Nat) (h1 : 100 ≤ y) (h2 : y < 120) : kq_okI y := by
  rcases (show y = 100 ∨ y = 101 ∨ y = 102 ∨ y = 103 ∨ y = 104 ∨ y = 105 ∨ y = 106 ∨ y = 107 ∨ y = 108 ∨ y = 109 ∨ y = 110 ∨ y = 111 ∨ y = 112 ∨ y = 113 ∨ y = 114 ∨ y = 115 ∨ y = 116 ∨ y = 117 ∨ y = 118 ∨ y = 119 by omega) with rfl | rfl | rfl | rfl | rfl | rfl | rfl | rfl | rfl | rfl | rfl | rfl | rfl | rfl | rfl | rfl | rfl | rfl | rfl | rfl
  · exact kq_okI_of (q0 := kq_q100) rfl kq_dI100
  · exact kq_okI_of (q0 := kq_q101) rfl kq_dI101
  · exact kq_okI_of (q0 := kq_q102) rfl kq_dI102
  · exact kq_okI_of (q0 := kq_q103) rfl kq_dI103
  · exact kq_okI_of (q0 := kq_q104) rfl kq_dI104
  · exact kq_okI_of (q0 := kq_q105) rfl kq_dI105
  · exact kq_okI_of (q0 := kq_q106) rfl kq_dI106
  · exact kq_okI_of (q0 := kq_q107) rfl kq_dI107
  · exact kq_okI_of (q0 := kq_q108) rfl kq_dI108
  · exact kq_okI_of (q0 := kq_q109) rfl kq_dI109
  · exact kq_okI_of (q0 := kq_q110) rfl kq_dI110
  · exact kq_okI_of (q0 := kq_q111) rfl kq_dI111
  · exact kq_okI_of (q0 := kq_q112) rfl kq_dI112
  · exact kq_okI_of (q0 := kq_q113) rfl kq_dI113
  · exact kq_okI_of (q0 := kq_q114) rfl kq_dI114
  · exact kq_okI_of (q0 := kq_q115) rfl kq_dI115
  · exact kq_okI_of (q0 := kq_q116) rfl kq_dI116
  · exact kq_okI_of (q0 := kq_q117) rfl kq_dI117
  · exact kq_okI_of (q0 := kq_q118) rfl kq_dI118
  · exact kq_okI_of (q0 := kq_q119) rfl kq_dI119
theorem kq_okIa_120 (y : Nat) (h1 : 120 ≤ y) (h2 : y < 140) : kq_okI y := by
  rcases (show y = 120 ∨ y = 121 ∨ y = 122 ∨ y = 123 ∨ y = 124 ∨ y = 125 ∨ y = 126 ∨ y = 127 ∨ y = 128 ∨ y = 129 ∨ y = 130 ∨ y = 131 ∨ y = 132 ∨ y = 133 ∨ y = 134 ∨ y = 135 ∨ y = 136 ∨ y = 137 ∨ y = 138 ∨ y = 139 by omega) with rfl | rfl | rfl | rfl | rfl | rfl | rfl | rfl | rfl | rfl | rfl | rfl | rfl | rfl | rfl | rfl | rfl | rfl | rfl | rfl
  · exact kq_okI_of (q0 := kq_q120) rfl kq_dI120
  · exact kq_okI_of (q0 := kq_q121) rfl kq_dI121
  · exact kq_okI_of (q0 := kq_q122) rfl kq_dI122
  · exact kq_okI_of (q0 := kq_q123) rfl kq_dI123
  · exact kq_okI_of (q0 := kq_q124) rfl kq_dI124
  · exact kq_okI_of (q0 := kq_q125) rfl kq_dI125
  · exact kq_okI_of (q0 := kq_q126) rfl kq_dI126
  · exact kq_okI_of (q0 := kq_q127) rfl kq_dI127
  · exact kq_okI_of (q0 := kq_q128) rfl kq_dI128
  · exact kq_okI_of (q0 := kq_q129) rfl kq_dI129
  · exact kq_okI_of (q0 := kq_q130) rfl kq_dI130
  · exact kq_okI_of (q0 := kq_q131) rfl kq_dI131
  · exact kq_okI_of (q0 := kq_q132) rfl kq_dI132
  · exact kq_okI_of (q0 := kq_q133) rfl kq_dI133
  · exact kq_okI_of (q0 := kq_q134) rfl kq_dI134
  · exact kq_okI_of (q0 := kq_q135) rfl kq_dI135
  · exact kq_okI_of (q0 := kq_q136) rfl kq_dI136
  · exact kq_okI_of (q0 := kq_q137) rfl kq_dI137
  · exact kq_okI_of (q0 := kq_q138) rfl kq_dI138
  · exact kq_okI_of (q0 := kq_q139) rfl kq_dI139
theorem kq_okIa_140 (y : Nat) (h1 : 140 ≤ y) (h2 : y < 160) : kq_okI y := by
  rcases (show y = 140 ∨ y = 141 ∨ y = 142 ∨ y = 143 ∨ y = 144 ∨ y = 145 ∨ y = 146 ∨ y = 147 ∨ y = 148 ∨ y = 149 ∨ y = 150 ∨ y = 151 ∨ y = 152 ∨ y = 153 ∨ y = 154 ∨ y = 155 ∨ y = 156 ∨ y = 157 ∨ y = 158 ∨ y = 159 by omega) with rfl | rfl | rfl | rfl | rfl | rfl | rfl | rfl | rfl | rfl | rfl | rfl | rfl | rfl | rfl | rfl | rfl | rfl | rfl | rfl
  · exact kq_okI_of (q0 := kq_q140) rfl kq_dI140
  · exact kq_okI_of (q0 := kq_q141) rfl kq_dI141
  · exact kq_okI_of (q0 := kq_q142) rfl kq_dI142
  · exact kq_okI_of (q0 := kq_q143) rfl kq_dI143
  · exact kq_okI_of (q0 := kq_q144) rfl kq_dI144
  · exact kq_okI_of (q0 := kq_q145) rfl kq_dI145
  · exact kq_okI_of (q0 := kq_q146) rfl kq_dI146
  · exact kq_okI_of (q0 := kq_q147) rfl kq_dI147
  · exact kq_okI_of (q0 := kq_q148) rfl kq_dI148
  · exact kq_okI_of (q0 := kq_q149) rfl kq_dI149
  · exact kq_okI_of (q0 := kq_q150) rfl kq_dI150
  · exact kq_okI_of (q0 := kq_q151) rfl kq_dI151
  · exact kq_okI_of (q0 := kq_q152) rfl kq_dI152
  · exact kq_okI_of (q0 := kq_q153) rfl kq_dI153
  · exact kq_okI_of (q0 := kq_q154) rfl kq_dI154
  · exact kq_okI_of (q0 := kq_q155) rfl kq_dI155
  · exact kq_okI_of (q0 := kq_q156) rfl kq_dI156
  · exact kq_okI_of (q0 := kq_q157) rfl kq_dI157
  · exact kq_okI_of (q0 := kq_q158) rfl kq_dI158
  · exact kq_okI_of (q0 := kq_q159) rfl kq_dI159
theorem kq_okIa_160 (y : Nat) (h1 : 160 ≤ y) (h2 : y < 180) : kq_okI y := by
  rcases (show y = 160 ∨ y = 161 ∨ y = 162 ∨ y = 163 ∨ y = 164 ∨ y = 165 ∨ y = 166 ∨ y = 167 ∨ y = 168 ∨ y = 169 ∨ y = 170 ∨ y = 171 ∨ y = 172 ∨ y = 173 ∨ y = 174 ∨ y = 175 ∨ y = 176 ∨ y = 177 ∨ y = 178 ∨ y = 179 by omega) with rfl | rfl | rfl | rfl | rfl | rfl | rfl | rfl | rfl | rfl | rfl | rfl | rfl | rfl | rfl | rfl | rfl | rfl | rfl | rfl
  · exact kq_okI_of (q0 := kq_q160) rfl kq_dI160
  · exact kq_okI_of (q0 := kq_q161) rfl kq_dI161
  · exact kq_okI_of (q0 := kq_q162) rfl kq_dI162
  · exact kq_okI_of (q0 := kq_q163) rfl kq_dI163
  · exact kq_okI_of (q0 := kq_q164) rfl kq_dI164
  · exact kq_okI_of (q0 := kq_q165) rfl kq_dI165
  · exact kq_okI_of (q0 := kq_q166) rfl kq_dI166
  · exact kq_okI_of (q0 := kq_q167) rfl kq_dI167
  · exact kq_okI_of (q0 := kq_q168) rfl kq_dI168
  · exact kq_okI_of (q0 := kq_q169) rfl kq_dI169
  · exact kq_okI_of (q0 := kq_q170) rfl kq_dI170
  · exact kq_okI_of (q0 := kq_q171) rfl kq_dI171
  · exact kq_okI_of (q0 := kq_q172) rfl kq_dI172
  · exact kq_okI_of (q0 := kq_q173) rfl kq_dI173
  · exact kq_okI_of (q0 := kq_q174) rfl kq_dI174
  · exact kq_okI_of (q0 := kq_q175) rfl kq_dI175
  · exact kq_okI_of (q0 := kq_q176) rfl kq_dI176
  · exact kq_okI_of (q0 := kq_q177) rfl kq_dI177
  · exact kq_okI_of (q0 := kq_q178) rfl kq_dI178
  · exact kq_okI_of (q0 := kq_q179) rfl kq_dI179
theorem kq_okIa_180 (y : Nat) (h1 : 180 ≤ y) (h2 : y < 200) : kq_okI y := by
  rcases (show y = 180 ∨ y = 181 ∨ y = 182 ∨ y = 183 ∨ y = 184 ∨ y = 185 ∨ y = 186 ∨ y = 187 ∨ y = 188 ∨ y = 189 ∨ y = 190 ∨ y = 191 ∨ y = 192 ∨ y = 193 ∨ y = 194 ∨ y = 195 ∨ y = 196 ∨ y = 197 ∨ y = 198 ∨ y = 199 by omega) with rfl | rfl | rfl | rfl | rfl | rfl | rfl | rfl | rfl | rfl | rfl | rfl | rfl | rfl | rfl | rfl | rfl | rfl | rfl | rfl
  · exact kq_okI_of (q0 := kq_q180) rfl kq_dI180
  · exact kq_okI_of (q0 := kq_q181) rfl kq_dI181
  · exact kq_okI_of (q0 := kq_q182) rfl kq_dI182
  · exact kq_okI_of (q0 := kq_q183) rfl kq_dI183
  · exact kq_okI_of (q0 := kq_q184) rfl kq_dI184
  · exact kq_okI_of (q0 := kq_q185) rfl kq_dI185
  · exact kq_okI_of (q0 := kq_q186) rfl kq_dI186
  · exact kq_okI_of (q0 := kq_q187) rfl kq_dI187
  · exact kq_okI_of (q0 := kq_q188) rfl kq_dI188
  · exact kq_okI_of (q0 := kq_q189) rfl kq_dI189
  · exact kq_okI_of (q0 := kq_q190) rfl kq_dI190
  · exact kq_okI_of (q0 := kq_q191) rfl kq_dI191
  · exact kq_okI_of (q0 := kq_q192) rfl kq_dI192
  · exact kq_okI_of (q0 := kq_q193) rfl kq_dI193
  · exact kq_okI_of (q0 := kq_q194) rfl kq_dI194
  · exact kq_okI_of (q0 := kq_q195) rfl kq_dI195
  · exact kq_okI_of (q0 := kq_q196) rfl kq_dI196
  · exact kq_okI_of (q0 := kq_q197) rfl kq_dI197
  · exact kq_okI_of (q0 := kq_q198) rfl kq_dI198
  · exact kq_okI_of (q0 := kq_q199) rfl kq_dI199
theorem kq_okIa_200 (y : Nat) (h1 : 200 ≤ y) (h2 : y < 220) : kq_okI y := by
  rcases (show y = 200 ∨ y = 201 ∨ y = 202 ∨ y = 203 ∨ y = 204 ∨ y = 205 ∨ y = 206 ∨ y = 207 ∨ y = 208 ∨ y = 209 ∨ y = 210 ∨ y = 211 ∨ y = 212 ∨ y = 213 ∨ y = 214 ∨ y = 215 ∨ y = 216 ∨ y = 217 ∨ y = 218 ∨ y = 219 by omega) with rfl | rfl | rfl | rfl | rfl | rfl | rfl | rfl | rfl | rfl | rfl | rfl | rfl | rfl | rfl | rfl | rfl | rfl | rfl | rfl
  · exact kq_okI_of (q0 := kq_q200) rfl kq_dI200
  · exact kq_okI_of (q0 := kq_q201) rfl kq_dI201
  · exact kq_okI_of (q0 := kq_q202) rfl kq_dI202
  · exact kq_okI_of (q0 := kq_q203) rfl kq_dI203
  · exact kq_okI_of (q0 := kq_q204) rfl kq_dI204
  · exact kq_okI_of (q0 := kq_q205) rfl kq_dI205
  · exact kq_okI_of (q0 := kq_q206) rfl kq_dI206
  · exact kq_okI_of (q0 := kq_q207) rfl kq_dI207
  · exact kq_okI_of (q0 := kq_q208) rfl kq_dI208
  · exact kq_okI_of (q0 := kq_q209) rfl kq_dI209
  · exact kq_okI_of (q0 := kq_q210) rfl kq_dI210
  · exact kq_okI_of (q0 := kq_q211) rfl kq_dI211
  · exact kq_okI_of (q0 := kq_q212) rfl kq_dI212
  · exact kq_okI_of (q0 := kq_q213) rfl kq_dI213
  · exact kq_okI_of (q0 := kq_q214) rfl kq_dI214
  · exact kq_okI_of (q0 := kq_q215) rfl kq_dI215
  · exact kq_okI_of (q0 := kq_q216) rfl kq_dI216
  · exact kq_okI_of (q0 := kq_q217) rfl kq_dI217
  · exact kq_okI_of (q0 := kq_q218) rfl kq_dI218
  · exact kq_okI_of (q0 := kq_q219) rfl kq_dI219
theorem kq_okIa_220 (y : Nat) (h1 : 220 ≤ y) (h2 : y < 240) : kq_okI y := by
  rcases (show y = 220 ∨ y = 221 ∨ y = 222 ∨ y = 223 ∨ y = 224 ∨ y = 225 ∨ y = 226 ∨ y = 227 ∨ y = 228 ∨ y = 229 ∨ y = 230 ∨ y = 231 ∨ y = 232 ∨ y = 233 ∨ y = 234 ∨ y = 235 ∨ y = 236 ∨ y = 237 ∨ y = 238 ∨ y = 239 by omega) with rfl | rfl | rfl | rfl | rfl | rfl | rfl | rfl | rfl | rfl | rfl | rfl | rfl | rfl | rfl | rfl | rfl | rfl | rfl | rfl
  · exact kq_okI_of (q0 := kq_q220) rfl kq_dI220
  · exact kq_okI_of (q0 := kq_q221) rfl kq_dI221
  · exact kq_okI_of (q0 := kq_q222) rfl kq_dI222
  · exact kq_okI_of (q0 := kq_q223) rfl kq_dI223
  · exact kq_okI_of (q0 := kq_q224) rfl kq_dI224
  · exact kq_okI_of (q0 := kq_q225) rfl kq_dI225
  · exact kq_okI_of (q0 := kq_q226) rfl kq_dI226
  · exact kq_okI_of (q0 := kq_q227) rfl kq_dI227
  · exact kq_okI_of (q0 := kq_q228) rfl kq_dI228
  · exact kq_okI_of (q0 := kq_q229) rfl kq_dI229
  · exact kq_okI_of (q0 := kq_q230) rfl kq_dI230
  · exact kq_okI_of (q0 := kq_q231) rfl kq_dI231
  · exact kq_okI_of (q0 := kq_q232) rfl kq_dI232
  · exact kq_okI_of (q0 := kq_q233) rfl kq_dI233
  · exact kq_okI_of (q0 := kq_q234) rfl kq_dI234
  · exact kq_okI_of (q0 := kq_q235) rfl kq_dI235
  · exact kq_okI_of (q0 := kq_q236) rfl kq_dI236
  · exact kq_okI_of (q0 := kq_q237) rfl kq_dI237
  · exact kq_okI_of (q0 := kq_q238) rfl kq_dI238
  · exact kq_okI_of (q0 := kq_q239) rfl kq_dI239
theorem kq_okIa_240 (y : Nat) (h1 : 240 ≤ y) (h2 : y < 260) : kq_okI y := by
  rcases (show y = 240 ∨ y = 241 ∨ y = 242 ∨ y = 243 ∨ y = 244 ∨ y = 245 ∨ y = 246 ∨ y = 247 ∨ y = 248 ∨ y = 249 ∨ y = 250 ∨ y = 251 ∨ y = 252 ∨ y = 253 ∨ y = 254 ∨ y = 255 ∨ y = 256 ∨ y = 257 ∨ y = 258 ∨ y = 259 by omega) with rfl | rfl | rfl | rfl | rfl | rfl | rfl | rfl | rfl | rfl | rfl | rfl | rfl | rfl | rfl | rfl | rfl | rfl | rfl | rfl
  · exact kq_okI_of (q0 := kq_q240) rfl kq_dI240
  · exact kq_okI_of (q0 := kq_q241) rfl kq_dI241
  · exact kq_okI_of (q0 := kq_q242) rfl kq_dI242
  · exact kq_okI_of (q0 := kq_q243) rfl kq_dI243
  · exact kq_okI_of (q0 := kq_q244) rfl kq_dI244
  · exact kq_okI_of (q0 := kq_q245) rfl kq_dI245
  · exact kq_okI_of (q0 := kq_q246) rfl kq_dI246
  · exact kq_okI_of (q0 := kq_q247) rfl kq_dI247
  · exact kq_okI_of (q0 := kq_q248) rfl kq_dI248
  · exact kq_okI_of (q0 := kq_q249) rfl kq_dI249
  · exact kq_okI_of (q0 := kq_q250) rfl kq_dI250
  · exact kq_okI_of (q0 := kq_q251) rfl kq_dI251
  · exact kq_okI_of (q0 := kq_q252) rfl kq_dI252
  · exact kq_okI_of (q0 := kq_q253) rfl kq_dI253
  · exact kq_okI_of (q0 := kq_q254) rfl kq_dI254
  · exact kq_okI_of (q0 := kq_q255) rfl kq_dI255
  · exact kq_okI_of (q0 := kq_q256) rfl kq_dI256
  · exact kq_okI_of (q0 := kq_q257) rfl kq_dI257
  · exact kq_okI_of (q0 := kq_q258) rfl kq_dI258
  · exact kq_okI_of (q0 := kq_q259) rfl kq_dI259
theorem kq_okIa_260 (y : Nat) (h1 : 260 ≤ y) (h2 : y < 280) : kq_okI y := by
  rcases (show y = 260 ∨ y = 261 ∨ y = 262 ∨ y = 263 ∨ y = 264 ∨ y = 265 ∨ y = 266 ∨ y = 267 ∨ y = 268 ∨ y = 269 ∨ y = 270 ∨ y = 271 ∨ y = 272 ∨ y = 273 ∨ y = 274 ∨ y = 275 ∨ y = 276 ∨ y = 277 ∨ y = 278 ∨ y = 279 by omega) with rfl | rfl | rfl | rfl | rfl | rfl | rfl | rfl | rfl | rfl | rfl | rfl | rfl | rfl | rfl | rfl | rfl | rfl | rfl | rfl
  · exact kq_okI_of (q0 := kq_q260) rfl kq_dI260
  · exact kq_okI_of (q0 := kq_q261) rfl kq_dI261
  · exact kq_okI_of (q0 := kq_q262) rfl kq_dI262
  · exact kq_okI_of (q0 := kq_q263) rfl kq_dI263
  · exact kq_okI_of (q0 := kq_q264) rfl kq_dI264
  · exact kq_okI_of (q0 := kq_q265) rfl kq_dI265
  · exact kq_okI_of (q0 := kq_q266) rfl kq_dI266
  · exact kq_okI_of (q0 := kq_q267) rfl kq_dI267
  · exact kq_okI_of (q0 := kq_q268) rfl kq_dI268
  · exact kq_okI_of (q0 := kq_q269) rfl kq_dI269
  · exact kq_okI_of (q0 := kq_q270) rfl kq_dI270
  · exact kq_okI_of (q0 := kq_q271) rfl kq_dI271
  · exact kq_okI_of (q0 := kq_q272) rfl kq_dI272
  · exact kq_okI_of (q0 := kq_q273) rfl kq_dI273
  · exact kq_okI_of (q0 := kq_q274) rfl kq_dI274
  · exact kq_okI_of (q0 := kq_q275) rfl kq_dI275
  · exact kq_okI_of (q0 := kq_q276) rfl kq_dI276
  · exact kq_okI_of (q0 := kq_q277) rfl kq_dI277
  · exact kq_okI_of (q0 := kq_q278) rfl kq_dI278
  · exact kq_okI_of (q0 := kq_q279) rfl kq_dI279
theorem kq_okIa_280 (y : Nat) (h1 : 280 ≤ y) (h2 : y < 300) : kq_okI y := by
  rcases (show y = 280 ∨ y = 281 ∨ y = 282 ∨ y = 283 ∨ y = 284 ∨ y = 285 ∨ y = 286 ∨ y = 287 ∨ y = 288 ∨ y = 289 ∨ y = 290 ∨ y = 291 ∨ y = 292 ∨ y = 293 ∨ y = 294 ∨ y = 295 ∨ y = 296 ∨ y = 297 ∨ y = 298 ∨ y = 299 by omega) with rfl | rfl | rfl | rfl | rfl | rfl | rfl | rfl | rfl | rfl | rfl | rfl | rfl | rfl | rfl | rfl | rfl | rfl | rfl | rfl
  · exact kq_okI_of (q0 := kq_q280) rfl kq_dI280
  · exact kq_okI_of (q0 := kq_q281) rfl kq_dI281
  · exact kq_okI_of (q0 := kq_q282) rfl kq_dI282
  · exact kq_okI_of (q0 := kq_q283) rfl kq_dI283
  · exact kq_okI_of (q0 := kq_q284) rfl kq_dI284
  · exact kq_okI_of (q0 := kq_q285) rfl kq_dI285
  · exact kq_okI_of (q0 := kq_q286) rfl kq_dI286
  · exact kq_okI_of (q0 := kq_q287) rfl kq_dI287
  · exact kq_okI_of (q0 := kq_q288) rfl kq_dI288
  · exact kq_okI_of (q0 := kq_q289) rfl kq_dI289
  · exact kq_okI_of (q0 := kq_q290) rfl kq_dI290
  · exact kq_okI_of (q0 := kq_q291) rfl kq_dI291
  · exact kq_okI_of (q0 := kq_q292) rfl kq_dI292
  · exact kq_okI_of (q0 := kq_q293) rfl kq_dI293
  · exact kq_okI_of (q0 := kq_q294) rfl kq_dI294
  · exact kq_okI_of (q0 := kq_q295) rfl kq_dI295
  · exact kq_okI_of (q0 := kq_q296) rfl kq_dI296
  · exact kq_okI_of (q0 := kq_q297) rfl kq_dI297
  · exact kq_okI_of (q0 := kq_q298) rfl kq_dI298
  · exact kq_okI_of (q0 := kq_q299) rfl kq_dI299
theorem kq_okIa_300 (y : Nat) (h1 : 300 ≤ y) (h2 : y < 320) : kq_okI y := by
  rcases (show y = 300 ∨ y = 301 ∨ y = 302 ∨ y = 303 ∨ y = 304 ∨ y = 305 ∨ y = 306 ∨ y = 307 ∨ y = 308 ∨ y = 309 ∨ y = 310 ∨ y = 311 ∨ y = 312 ∨ y = 313 ∨ y = 314 ∨ y = 315 ∨ y = 316 ∨ y = 317 ∨ y = 318 ∨ y = 319 by omega) with rfl | rfl | rfl | rfl | rfl | rfl | rfl | rfl | rfl | rfl | rfl | rfl | rfl | rfl | rfl | rfl | rfl | rfl | rfl | rfl
  · exact kq_okI_of (q0 := kq_q300) rfl kq_dI300
  · exact kq_okI_of (q0 := kq_q301) rfl kq_dI301
  · exact kq_okI_of (q0 := kq_q302) rfl kq_dI302
  · exact kq_okI_of (q0 := kq_q303) rfl kq_dI303
  · exact kq_okI_of (q0 := kq_q304) rfl kq_dI304
  · exact kq_okI_of (q0 := kq_q305) rfl kq_dI305
  · exact kq_okI_of (q0 := kq_q306) rfl kq_dI306
  · exact kq_okI_of (q0 := kq_q307) rfl kq_dI307
  · exact kq_okI_of (q0 := kq_q308) rfl kq_dI308
  · exact kq_okI_of (q0 := kq_q309) rfl kq_dI309
  · exact kq_okI_of (q0 := kq_q310) rfl kq_dI310
  · exact kq_okI_of (q0 := kq_q311) rfl kq_dI311
  · exact kq_okI_of (q0 := kq_q312) rfl kq_dI312
  · exact kq_okI_of (q0 := kq_q313) rfl kq_dI313
  · exact kq_okI_of (q0 := kq_q314) rfl kq_dI314
  · exact kq_okI_of (q0 := kq_q315) rfl kq_dI315
  · exact kq_okI_of (q0 := kq_q316) rfl kq_dI316
  · exact kq_okI_of (q0 := kq_q317) rfl kq_dI317
  · exact kq_okI_of (q0 := kq_q318) rfl kq_dI318
  · exact kq_okI_of (q0 := kq_q319) rfl kq_dI319
theorem kq_okIa_320 (y : Nat) (h1 : 320 ≤ y) (h2 : y < 338) : kq_okI y := by
  rcases (show y = 320 ∨ y = 321 ∨ y = 322 ∨ y = 323 ∨ y = 324 ∨ y = 325 ∨ y = 326 ∨ y = 327 ∨ y = 328 ∨ y = 329 ∨ y = 330 ∨ y = 331 ∨ y = 332 ∨ y = 333 ∨ y = 334 ∨ y = 335 ∨ y = 336 ∨ y = 337 by omega) with rfl | rfl | rfl | rfl | rfl | rfl | rfl | rfl | rfl | rfl | rfl | rfl | rfl | rfl | rfl | rfl | rfl | rfl
  · exact kq_okI_of (q0 := kq_q320) rfl kq_dI320
  · exact kq_okI_of (q0 := kq_q321) rfl kq_dI321
  · exact kq_okI_of (q0 := kq_q322) rfl kq_dI322
  · exact kq_okI_of (q0 := kq_q323) rfl kq_dI323
  · exact kq_okI_of (q0 := kq_q324) rfl kq_dI324
  · exact kq_okI_of (q0 := kq_q325) rfl kq_dI325
  · exact kq_okI_of (q0 := kq_q326) rfl kq_dI326
  · exact kq_okI_of (q0 := kq_q327) rfl kq_dI327
  · exact kq_okI_of (q0 := kq_q328) rfl kq_dI328
  · exact kq_okI_of (q0 := kq_q329) rfl kq_dI329
  · exact kq_okI_of (q0 := kq_q330) rfl kq_dI330
  · exact kq_okI_of (q0 := kq_q331) rfl kq_dI331
  · exact kq_okI_of (q0 := kq_q332) rfl kq_dI332
  · exact kq_okI_of (q0 := kq_q333) rfl kq_dI333
  · exact kq_okI_of (q0 := kq_q334) rfl kq_dI334
  · exact kq_okI_of (q0 := kq_q335) rfl kq_dI335
  · exact kq_okI_of (q0 := kq_q336) rfl kq_dI336
  · exact kq_okI_of (q0 := kq_q337) rfl kq_dI337
theorem kq_okIa (y : Nat) (hy : y < 338) : kq_okI y := by
  rcases Nat.lt_or_ge y 20 with h | h
  · exact kq_okIa_0 y (by omega) h
  rcases Nat.lt_or_ge y 40 with h | h
  · exact kq_okIa_20 y (by omega) h
  rcases Nat.lt_or_ge y 60 with h | h
  · exact kq_okIa_40 y (by omega) h
  rcases Nat.lt_or_ge y 80 with h | h
  · exact kq_okIa_60 y (by omega) h
  rcases Nat.lt_or_ge y 100 with h | h
  · exact kq_okIa_80 y (by omega) h
  rcases Nat.lt_or_ge y 120 with h | h
  · exact kq_okIa_100 y (by omega) h
  rcases Nat.lt_or_ge y 140 with h | h
  · exact kq_okIa_120 y (by omega) h
  rcases Nat.lt_or_ge y 160 with h | h
  · exact kq_okIa_140 y (by omega) h
  rcases Nat.lt_or_ge y 180 with h | h
  · exact kq_okIa_160 y (by omega) h
  rcases Nat.lt_or_ge y 200 with h | h
  · exact kq_okIa_180 y (by omega) h
  rcases Nat.lt_or_ge y 220 with h | h
  · exact kq_okIa_200 y (by omega) h
  rcases Nat.lt_or_ge y 240 with h | h
  · exact kq_okIa_220 y (by omega) h
  rcases Nat.lt_or_ge y 260 with h | h
  · exact kq_okIa_240 y (by omega) h
  rcases Nat.lt_or_ge y 280 with h | h
  · exact kq_okIa_260 y (by omega) h
  rcases Nat.lt_or_ge y 300 with h | h
  · exact kq_okIa_280 y (by omega) h
  rcases Nat.lt_or_ge y 320 with h | h
  · exact kq_okIa_300 y (by omega) h
  exact kq_okIa_320 y (by omega) hy
theorem kq_okWa_0 (y : Nat) (h1 : 0 ≤ y) (h2 : y < 20) : kq_okW y := by
  rcases (show y = 0 ∨ y = 1 ∨ y = 2 ∨ y = 3 ∨ y = 4 ∨ y = 5 ∨ y = 6 ∨ y = 7 ∨ y = 8 ∨ y = 9 ∨ y = 10 ∨ y = 11 ∨ y = 12 ∨ y = 13 ∨ y = 14 ∨ y = 15 ∨ y = 16 ∨ y = 17 ∨ y = 18 ∨ y = 19 by omega) with rfl | rfl | rfl | rfl | rfl | rfl | rfl | rfl | rfl | rfl | rfl | rfl | rfl | rfl | rfl | rfl | rfl | rfl | rfl | rfl
  · exact kq_okW_of (q0 := kq_q0) rfl kq_wC0
  · exact kq_okW_of (q0 := kq_q1) rfl kq_wC1
  · exact kq_okW_of (q0 := kq_q2) rfl kq_wC2
  · exact kq_okW_of (q0 := kq_q3) rfl kq_wC3
  · exact kq_okW_of (q0 := kq_q4) rfl kq_wC4
  · exact kq_okW_of (q0 := kq_q5) rfl kq_wC5
  · exact kq_okW_of (q0 := kq_q6) rfl kq_wC6
  · exact kq_okW_of (q0 := kq_q7) rfl kq_wC7
  · exact kq_okW_of (q0 := kq_q8) rfl kq_wC8
  · exact kq_okW_of (q0 := kq_q9) rfl kq_wC9
  · exact kq_okW_of (q0 := kq_q10) rfl kq_wC10
  · exact kq_okW_of (q0 := kq_q11) rfl kq_wC11
  · exact kq_okW_of (q0 := kq_q12) rfl kq_wC12
  · exact kq_okW_of (q0 := kq_q13) rfl kq_wC13
  · exact kq_okW_of (q0 := kq_q14) rfl kq_wC14
  · exact kq_okW_of (q0 := kq_q15) rfl kq_wC15
  · exact kq_okW_of (q0 := kq_q16) rfl kq_wC16
  · exact kq_okW_of (q0 := kq_q17) rfl kq_wC17
  · exact kq_okW_of (q0 := kq_q18) rfl kq_wC18
  · exact kq_okW_of (q0 := kq_q19) rfl kq_wC19
theorem kq_okWa_20 (y : Nat) (h1 : 20 ≤ y) (h2 : y < 40) : kq_okW y := by
  rcases (show y = 20 ∨ y = 21 ∨ y = 22 ∨ y = 23 ∨ y = 24 ∨ y = 25 ∨ y = 26 ∨ y = 27 ∨ y = 28 ∨ y = 29 ∨ y = 30 ∨ y = 31 ∨ y = 32 ∨ y = 33 ∨ y = 34 ∨ y = 35 ∨ y = 36 ∨ y = 37 ∨ y = 38 ∨ y = 39 by omega) with rfl | rfl | rfl | rfl | rfl | rfl | rfl | rfl | rfl | rfl | rfl | rfl | rfl | rfl | rfl | rfl | rfl | rfl | rfl | rfl
  · exact kq_okW_of (q0 := kq_q20) rfl kq_wC20
  · exact kq_okW_of (q0 := kq_q21) rfl kq_wC21
  · exact kq_okW_of (q0 := kq_q22) rfl kq_wC22
  · exact kq_okW_of (q0 := kq_q23) rfl kq_wC23
  · exact kq_okW_of (q0 := kq_q24) rfl kq_wC24
  · exact kq_okW_of (q0 := kq_q25) rfl kq_wC25
  · exact kq_okW_of (q0 := kq_q26) rfl kq_wC26
  · exact kq_okW_of (q0 := kq_q27) rfl kq_wC27
  · exact kq_okW_of (q0 := kq_q28) rfl kq_wC28
  · exact kq_okW_of (q0 := kq_q29) rfl kq_wC29
  · exact kq_okW_of (q0 := kq_q30) rfl kq_wC30
  · exact kq_okW_of (q0 := kq_q31) rfl kq_wC31
  · exact kq_okW_of (q0 := kq_q32) rfl kq_wC32
  · exact kq_okW_of (q0 := kq_q33) rfl kq_wC33
  · exact kq_okW_of (q0 := kq_q34) rfl kq_wC34
  · exact kq_okW_of (q0 := kq_q35) rfl kq_wC35
  · exact kq_okW_of (q0 := kq_q36) rfl kq_wC36
  · exact kq_okW_of (q0 := kq_q37) rfl kq_wC37
  · exact kq_okW_of (q0 := kq_q38) rfl kq_wC38
  · exact kq_okW_of (q0 := kq_q39) rfl kq_wC39
theorem kq_okWa_40 (y : Nat) (h1 : 40 ≤ y) (h2 : y < 60) : kq_okW y := by
  rcases (show y = 40 ∨ y = 41 ∨ y = 42 ∨ y = 43 ∨ y = 44 ∨ y = 45 ∨ y = 46 ∨ y = 47 ∨ y = 48 ∨ y = 49 ∨ y = 50 ∨ y = 51 ∨ y = 52 ∨ y = 53 ∨ y = 54 ∨ y = 55 ∨ y = 56 ∨ y = 57 ∨ y = 58 ∨ y = 59 by omega) with rfl | rfl | rfl | rfl | rfl | rfl | rfl | rfl | rfl | rfl | rfl | rfl | rfl | rfl | rfl | rfl | rfl | rfl | rfl | rfl
  · exact kq_okW_of (q0 := kq_q40) rfl kq_wC40
  · exact kq_okW_of (q0 := kq_q41) rfl kq_wC41
  · exact kq_okW_of (q0 := kq_q42) rfl kq_wC42
  · exact kq_okW_of (q0 := kq_q43) rfl kq_wC43
  · exact kq_okW_of (q0 := kq_q44) rfl kq_wC44
  · exact kq_okW_of (q0 := kq_q45) rfl kq_wC45
  · exact kq_okW_of (q0 := kq_q46) rfl kq_wC46
  · exact kq_okW_of (q0 := kq_q47) rfl kq_wC47
  · exact kq_okW_of (q0 := kq_q48) rfl kq_wC48
  · exact kq_okW_of (q0 := kq_q49) rfl kq_wC49
  · exact kq_okW_of (q0 := kq_q50) rfl kq_wC50
  · exact kq_okW_of (q0 := kq_q51) rfl kq_wC51
  · exact kq_okW_of (q0 := kq_q52) rfl kq_wC52
  · exact kq_okW_of (q0 := kq_q53) rfl kq_wC53
  · exact kq_okW_of (q0 := kq_q54) rfl kq_wC54
  · exact kq_okW_of (q0 := kq_q55) rfl kq_wC55
  · exact kq_okW_of (q0 := kq_q56) rfl kq_wC56
  · exact kq_okW_of (q0 := kq_q57) rfl kq_wC57
  · exact kq_okW_of (q0 := kq_q58) rfl kq_wC58
  · exact kq_okW_of (q0 := kq_q59) rfl kq_wC59
theorem kq_okWa_60 (y : Nat) (h1 : 60 ≤ y) (h2 : y < 80) : kq_okW y := by
  rcases (show y = 60 ∨ y = 61 ∨ y = 62 ∨ y = 63 ∨ y = 64 ∨ y = 65 ∨ y = 66 ∨ y = 67 ∨ y = 68 ∨ y = 69 ∨ y = 70 ∨ y = 71 ∨ y = 72 ∨ y = 73 ∨ y = 74 ∨ y = 75 ∨ y = 76 ∨ y = 77 ∨ y = 78 ∨ y = 79 by omega) with rfl | rfl | rfl | rfl | rfl | rfl | rfl | rfl | rfl | rfl | rfl | rfl | rfl | rfl | rfl | rfl | rfl | rfl | rfl | rfl
  · exact kq_okW_of (q0 := kq_q60) rfl kq_wC60
  · exact kq_okW_of (q0 := kq_q61) rfl kq_wC61
  · exact kq_okW_of (q0 := kq_q62) rfl kq_wC62
  · exact kq_okW_of (q0 := kq_q63) rfl kq_wC63
  · exact kq_okW_of (q0 := kq_q64) rfl kq_wC64
  · exact kq_okW_of (q0 := kq_q65) rfl kq_wC65
  · exact kq_okW_of (q0 := kq_q66) rfl kq_wC66
  · exact kq_okW_of (q0 := kq_q67) rfl kq_wC67
  · exact kq_okW_of (q0 := kq_q68) rfl kq_wC68
  · exact kq_okW_of (q0 := kq_q69) rfl kq_wC69
  · exact kq_okW_of (q0 := kq_q70) rfl kq_wC70
  · exact kq_okW_of (q0 := kq_q71) rfl kq_wC71
  · exact kq_okW_of (q0 := kq_q72) rfl kq_wC72
  · exact kq_okW_of (q0 := kq_q73) rfl kq_wC73
  · exact kq_okW_of (q0 := kq_q74) rfl kq_wC74
  · exact kq_okW_of (q0 := kq_q75) rfl kq_wC75
  · exact kq_okW_of (q0 := kq_q76) rfl kq_wC76
  · exact kq_okW_of (q0 := kq_q77) rfl kq_wC77
  · exact kq_okW_of (q0 := kq_q78) rfl kq_wC78
  · exact kq_okW_of (q0 := kq_q79) rfl kq_wC79
theorem kq_okWa_80 (y : Nat) (h1 : 80 ≤ y) (h2 : y < 100) : kq_okW y := by
  rcases (show y = 80 ∨ y = 81 ∨ y = 82 ∨ y = 83 ∨ y = 84 ∨ y = 85 ∨ y = 86 ∨ y = 87 ∨ y = 88 ∨ y = 89 ∨ y = 90 ∨ y = 91 ∨ y = 92 ∨ y = 93 ∨ y = 94 ∨ y = 95 ∨ y = 96 ∨ y = 97 ∨ y = 98 ∨ y = 99 by omega) with rfl | rfl | rfl | rfl | rfl | rfl | rfl | rfl | rfl | rfl | rfl | rfl | rfl | rfl | rfl | rfl | rfl | rfl | rfl | rfl
  · exact kq_okW_of (q0 := kq_q80) rfl kq_wC80
  · exact kq_okW_of (q0 := kq_q81) rfl kq_wC81
  · exact kq_okW_of (q0 := kq_q82) rfl kq_wC82
  · exact kq_okW_of (q0 := kq_q83) rfl kq_wC83
  · exact kq_okW_of (q0 := kq_q84) rfl kq_wC84
  · exact kq_okW_of (q0 := kq_q85) rfl kq_wC85
  · exact kq_okW_of (q0 := kq_q86) rfl kq_wC86
  · exact kq_okW_of (q0 := kq_q87) rfl kq_wC87
  · exact kq_okW_of (q0 := kq_q88) rfl kq_wC88
  · exact kq_okW_of (q0 := kq_q89) rfl kq_wC89
  · exact kq_okW_of (q0 := kq_q90) rfl kq_wC90
  · exact kq_okW_of (q0 := kq_q91) rfl kq_wC91
  · exact kq_okW_of (q0 := kq_q92) rfl kq_wC92
  · exact kq_okW_of (q0 := kq_q93) rfl kq_wC93
  · exact kq_okW_of (q0 := kq_q94) rfl kq_wC94
  · exact kq_okW_of (q0 := kq_q95) rfl kq_wC95
  · exact kq_okW_of (q0 := kq_q96) rfl kq_wC96
  · exact kq_okW_of (q0 := kq_q97) rfl kq_wC97
  · exact kq_okW_of (q0 := kq_q98) rfl kq_wC98
  · exact kq_okW_of (q0 := kq_q99) rfl kq_wC99
theorem kq_okWa_100 (y : Nat) (h1 : 100 ≤ y) (h2 : y < 120) : kq_okW y := by
  rcases (show y = 100 ∨ y = 101 ∨ y = 102 ∨ y = 103 ∨ y = 104 ∨ y = 105 ∨ y = 106 ∨ y = 107 ∨ y = 108 ∨ y = 109 ∨ y = 110 ∨ y = 111 ∨ y = 112 ∨ y = 113 ∨ y = 114 ∨ y = 115 ∨ y = 116 ∨ y = 117 ∨ y = 118 ∨ y = 119 by omega) with rfl | rfl | rfl | rfl | rfl | rfl | rfl | rfl | rfl | rfl | rfl | rfl | rfl | rfl | rfl | rfl | rfl | rfl | rfl | rfl
  · exact kq_okW_of (q0 := kq_q100) rfl kq_wC100
  · exact kq_okW_of (q0 := kq_q101) rfl kq_wC101
  · exact kq_okW_of (q0 := kq_q102) rfl kq_wC102
  · exact kq_okW_of (q0 := kq_q103) rfl kq_wC103
  · exact kq_okW_of (q0 := kq_q104) rfl kq_wC104
  · exact kq_okW_of (q0 := kq_q105) rfl kq_wC105
  · exact kq_okW_of (q0 := kq_q106) rfl kq_wC106
  · exact kq_okW_of (q0 := kq_q107) rfl kq_wC107
  · exact kq_okW_of (q0 := kq_q108) rfl kq_wC108
  · exact kq_okW_of (q0 := kq_q109) rfl kq_wC109
  · exact kq_okW_of (q0 := kq_q110) rfl kq_wC110
  · exact kq_okW_of (q0 := kq_q111) rfl kq_wC111
  · exact kq_okW_of (q0 := kq_q112) rfl kq_wC112
  · exact kq_okW_of (q0 := kq_q113) rfl kq_wC113
  · exact kq_okW_of (q0 := kq_q114) rfl kq_wC114
  · exact kq_okW_of (q0 := kq_q115) rfl kq_wC115
  · exact kq_okW_of (q0 := kq_q116) rfl kq_wC116
  · exact kq_okW_of (q0 := kq_q117) rfl kq_wC117
  · exact kq_okW_of (q0 := kq_q118) rfl kq_wC118
  · exact kq_okW_of (q0 := kq_q119) rfl kq_wC119
theorem kq_okWa_120 (y : Nat) (h1 : 120 ≤ y) (h2 : y < 140) : kq_okW y := by
  rcases (show y = 120 ∨ y = 121 ∨ y = 122 ∨ y = 123 ∨ y = 124 ∨ y = 125 ∨ y = 126 ∨ y = 127 ∨ y = 128 ∨ y = 129 ∨ y = 130 ∨ y = 131 ∨ y = 132 ∨ y = 133 ∨ y = 134 ∨ y = 135 ∨ y = 136 ∨ y = 137 ∨ y = 138 ∨ y = 139 by omega) with rfl | rfl | rfl | rfl | rfl | rfl | rfl | rfl | rfl | rfl | rfl | rfl | rfl | rfl | rfl | rfl | rfl | rfl | rfl | rfl
  · exact kq_okW_of (q0 := kq_q120) rfl kq_wC120
  · exact kq_okW_of (q0 := kq_q121) rfl kq_wC121
  · exact kq_okW_of (q0 := kq_q122) rfl kq_wC122
  · exact kq_okW_of (q0 := kq_q123) rfl kq_wC123
  · exact kq_okW_of (q0 := kq_q124) rfl kq_wC124
  · exact kq_okW_of (q0 := kq_q125) rfl kq_wC125
  · exact kq_okW_of (q0 := kq_q126) rfl kq_wC126
  · exact kq_okW_of (q0 := kq_q127) rfl kq_wC127
  · exact kq_okW_of (q0 := kq_q128) rfl kq_wC128
  · exact kq_okW_of (q0 := kq_q129) rfl kq_wC129
  · exact kq_okW_of (q0 := kq_q130) rfl kq_wC130
  · exact kq_okW_of (q0 := kq_q131) rfl kq_wC131
  · exact kq_okW_of (q0 := kq_q132) rfl kq_wC132
  · exact kq_okW_of (q0 := kq_q133) rfl kq_wC133
  · exact kq_okW_of (q0 := kq_q134) rfl kq_wC134
  · exact kq_okW_of (q0 := kq_q135) rfl kq_wC135
  · exact kq_okW_of (q0 := kq_q136) rfl kq_wC136
  · exact kq_okW_of (q0 := kq_q137) rfl kq_wC137
  · exact kq_okW_of (q0 := kq_q138) rfl kq_wC138
  · exact kq_okW_of (q0 := kq_q139) rfl kq_wC139
theorem kq_okWa_140 (y : Nat) (h1 : 140 ≤ y) (h2 : y < 160) : kq_okW y := by
  rcases (show y = 140 ∨ y = 141 ∨ y = 142 ∨ y = 143 ∨ y = 144 ∨ y = 145 ∨ y = 146 ∨ y = 147 ∨ y = 148 ∨ y = 149 ∨ y = 150 ∨ y = 151 ∨ y = 152 ∨ y = 153 ∨ y = 154 ∨ y = 155 ∨ y = 156 ∨ y = 157 ∨ y = 158 ∨ y = 159 by omega) with rfl | rfl | rfl | rfl | rfl | rfl | rfl | rfl | rfl | rfl | rfl | rfl | rfl | rfl | rfl | rfl | rfl | rfl | rfl | rfl
  · exact kq_okW_of (q0 := kq_q140) rfl kq_wC140
  · exact kq_okW_of (q0 := kq_q141) rfl kq_wC141
  · exact kq_okW_of (q0 := kq_q142) rfl kq_wC142
  · exact kq_okW_of (q0 := kq_q143) rfl kq_wC143
  · exact kq_okW_of (q0 := kq_q144) rfl kq_wC144
  · exact kq_okW_of (q0 := kq_q145) rfl kq_wC145
  · exact kq_okW_of (q0 := kq_q146) rfl kq_wC146
  · exact kq_okW_of (q0 := kq_q147) rfl kq_wC147
  · exact kq_okW_of (q0 := kq_q148) rfl kq_wC148
  · exact kq_okW_of (q0 := kq_q149) rfl kq_wC149
  · exact kq_okW_of (q0 := kq_q150) rfl kq_wC150
  · exact kq_okW_of (q0 := kq_q151) rfl kq_wC151
  · exact kq_okW_of (q0 := kq_q152) rfl kq_wC152
  · exact kq_okW_of (q0 := kq_q153) rfl kq_wC153
  · exact kq_okW_of (q0 := kq_q154) rfl kq_wC154
  · exact kq_okW_of (q0 := kq_q155) rfl kq_wC155
  · exact kq_okW_of (q0 := kq_q156) rfl kq_wC156
  · exact kq_okW_of (q0 := kq_q157) rfl kq_wC157
  · exact kq_okW_of (q0 := kq_q158) rfl kq_wC158
  · exact kq_okW_of (q0 := kq_q159) rfl kq_wC159
theorem kq_okWa_160 (y : Nat) (h1 : 160 ≤ y) (h2 : y < 180) : kq_okW y := by
  rcases (show y = 160 ∨ y = 161 ∨ y = 162 ∨ y = 163 ∨ y = 164 ∨ y = 165 ∨ y = 166 ∨ y = 167 ∨ y = 168 ∨ y = 169 ∨ y = 170 ∨ y = 171 ∨ y = 172 ∨ y = 173 ∨ y = 174 ∨ y = 175 ∨ y = 176 ∨ y = 177 ∨ y = 178 ∨ y = 179 by omega) with rfl | rfl | rfl | rfl | rfl | rfl | rfl | rfl | rfl | rfl | rfl | rfl | rfl | rfl | rfl | rfl | rfl | rfl | rfl | rfl
  · exact kq_okW_of (q0 := kq_q160) rfl kq_wC160
  · exact kq_okW_of (q0 := kq_q161) rfl kq_wC161
  · exact kq_okW_of (q0 := kq_q162) rfl kq_wC162
  · exact kq_okW_of (q0 := kq_q163) rfl kq_wC163
  · exact kq_okW_of (q0 := kq_q164) rfl kq_wC164
  · exact kq_okW_of (q0 := kq_q165) rfl kq_wC165
  · exact kq_okW_of (q0 := kq_q166) rfl kq_wC166
  · exact kq_okW_of (q0 := kq_q167) rfl kq_wC167
  · exact kq_okW_of (q0 := kq_q168) rfl kq_wC168
  · exact kq_okW_of (q0 := kq_q169) rfl kq_wC169
  · exact kq_okW_of (q0 := kq_q170) rfl kq_wC170
  · exact kq_okW_of (q0 := kq_q171) rfl kq_wC171
  · exact kq_okW_of (q0 := kq_q172) rfl kq_wC172
  · exact kq_okW_of (q0 := kq_q173) rfl kq_wC173
  · exact kq_okW_of (q0 := kq_q174) rfl kq_wC174
  · exact kq_okW_of (q0 := kq_q175) rfl kq_wC175
  · exact kq_okW_of (q0 := kq_q176) rfl kq_wC176
  · exact kq_okW_of (q0 := kq_q177) rfl kq_wC177
  · exact kq_okW_of (q0 := kq_q178) rfl kq_wC178
  · exact kq_okW_of (q0 := kq_q179) rfl kq_wC179
theorem kq_okWa_180 (y : Nat) (h1 : 180 ≤ y) (h2 : y < 200) : kq_okW y := by
  rcases (show y = 180 ∨ y = 181 ∨ y = 182 ∨ y = 183 ∨ y = 184 ∨ y = 185 ∨ y = 186 ∨ y = 187 ∨ y = 188 ∨ y = 189 ∨ y = 190 ∨ y = 191 ∨ y = 192 ∨ y = 193 ∨ y = 194 ∨ y = 195 ∨ y = 196 ∨ y = 197 ∨ y = 198 ∨ y = 199 by omega) with rfl | rfl | rfl | rfl | rfl | rfl | rfl | rfl | rfl | rfl | rfl | rfl | rfl | rfl | rfl | rfl | rfl | rfl | rfl | rfl
  · exact kq_okW_of (q0 := kq_q180) rfl kq_wC180
  · exact kq_okW_of (q0 := kq_q181) rfl kq_wC181
  · exact kq_okW_of (q0 := kq_q182) rfl kq_wC182
  · exact kq_okW_of (q0 := kq_q183) rfl kq_wC183
  · exact kq_okW_of (q0 := kq_q184) rfl kq_wC184
  · exact kq_okW_of (q0 := kq_q185) rfl kq_wC185
  · exact kq_okW_of (q0 := kq_q186) rfl kq_wC186
  · exact kq_okW_of (q0 := kq_q187) rfl kq_wC187
  · exact kq_okW_of (q0 := kq_q188) rfl kq_wC188
  · exact kq_okW_of (q0 := kq_q189) rfl kq_wC189
  · exact kq_okW_of (q0 := kq_q190) rfl kq_wC190
  · exact kq_okW_of (q0 := kq_q191) rfl kq_wC191
  · exact kq_okW_of (q0 := kq_q192) rfl kq_wC192
  · exact kq_okW_of (q0 := kq_q193) rfl kq_wC193
  · exact kq_okW_of (q0 := kq_q194) rfl kq_wC194
  · exact kq_okW_of (q0 := kq_q195) rfl kq_wC195
  · exact kq_okW_of (q0 := kq_q196) rfl kq_wC196
  · exact kq_okW_of (q0 := kq_q197) rfl kq_wC197
  · exact kq_okW_of (q0 := kq_q198) rfl kq_wC198
  · exact kq_okW_of (q0 := kq_q199) rfl kq_wC199
theorem kq_okWa_200 (y : Nat) (h1 : 200 ≤ y) (h2 : y < 220) : kq_okW y := by
  rcases (show y = 200 ∨ y = 201 ∨ y = 202 ∨ y = 203 ∨ y = 204 ∨ y = 205 ∨ y = 206 ∨ y = 207 ∨ y = 208 ∨ y = 209 ∨ y = 210 ∨ y = 211 ∨ y = 212 ∨ y = 213 ∨ y = 214 ∨ y = 215 ∨ y = 216 ∨ y = 217 ∨ y = 218 ∨ y = 219 by omega) with rfl | rfl | rfl | rfl | rfl | rfl | rfl | rfl | rfl | rfl | rfl | rfl | rfl | rfl | rfl | rfl | rfl | rfl | rfl | rfl
  · exact kq_okW_of (q0 := kq_q200) rfl kq_wC200
  · exact kq_okW_of (q0 := kq_q201) rfl kq_wC201
  · exact kq_okW_of (q0 := kq_q202) rfl kq_wC202
  · exact kq_okW_of (q0 := kq_q203) rfl kq_wC203
  · exact kq_okW_of (q0 := kq_q204) rfl kq_wC204
  · exact kq_okW_of (q0 := kq_q205) rfl kq_wC205
  · exact kq_okW_of (q0 := kq_q206) rfl kq_wC206
  · exact kq_okW_of (q0 := kq_q207) rfl kq_wC207
  · exact kq_okW_of (q0 := kq_q208) rfl kq_wC208
  · exact kq_okW_of (q0 := kq_q209) rfl kq_wC209
  · exact kq_okW_of (q0 := kq_q210) rfl kq_wC210
  · exact kq_okW_of (q0 := kq_q211) rfl kq_wC211
  · exact kq_okW_of (q0 := kq_q212) rfl kq_wC212
  · exact kq_okW_of (q0 := kq_q213) rfl kq_wC213
  · exact kq_okW_of (q0 := kq_q214) rfl kq_wC214
  · exact kq_okW_of (q0 := kq_q215) rfl kq_wC215
  · exact kq_okW_of (q0 := kq_q216) rfl kq_wC216
  · exact kq_okW_of (q0 := kq_q217) rfl kq_wC217
  · exact kq_okW_of (q0 := kq_q218) rfl kq_wC218
  · exact kq_okW_of (q0 := kq_q219) rfl kq_wC219
theorem kq_okWa_220 (y : Nat) (h1 : 220 ≤ y) (h2 : y < 240) : kq_okW y := by
  rcases (show y = 220 ∨ y = 221 ∨ y = 222 ∨ y = 223 ∨ y = 224 ∨ y = 225 ∨ y = 226 ∨ y = 227 ∨ y = 228 ∨ y = 229 ∨ y = 230 ∨ y = 231 ∨ y = 232 ∨ y = 233 ∨ y = 234 ∨ y = 235 ∨ y = 236 ∨ y = 237 ∨ y = 238 ∨ y = 239 by omega) with rfl | rfl | rfl | rfl | rfl | rfl | rfl | rfl | rfl | rfl | rfl | rfl | rfl | rfl | rfl | rfl | rfl | rfl | rfl | rfl
  · exact kq_okW_of (q0 := kq_q220) rfl kq_wC220
  · exact kq_okW_of (q0 := kq_q221) rfl kq_wC221
  · exact kq_okW_of (q0 := kq_q222) rfl kq_wC222
  · exact kq_okW_of (q0 := kq_q223) rfl kq_wC223
  · exact kq_okW_of (q0 := kq_q224) rfl kq_wC224
  · exact kq_okW_of (q0 := kq_q225) rfl kq_wC225
  · exact kq_okW_of (q0 := kq_q226) rfl kq_wC226
  · exact kq_okW_of (q0 := kq_q227) rfl kq_wC227
  · exact kq_okW_of (q0 := kq_q228) rfl kq_wC228
  · exact kq_okW_of (q0 := kq_q229) rfl kq_wC229
  · exact kq_okW_of (q0 := kq_q230) rfl kq_wC230
  · exact kq_okW_of (q0 := kq_q231) rfl kq_wC231
  · exact kq_okW_of (q0 := kq_q232) rfl kq_wC232
  · exact kq_okW_of (q0 := kq_q233) rfl kq_wC233
  · exact kq_okW_of (q0 := kq_q234) rfl kq_wC234
  · exact kq_okW_of (q0 := kq_q235) rfl kq_wC235
  · exact kq_okW_of (q0 := kq_q236) rfl kq_wC236
  · exact kq_okW_of (q0 := kq_q237) rfl kq_wC237
  · exact kq_okW_of (q0 := kq_q238) rfl kq_wC238
  · exact kq_okW_of (q0 := kq_q239) rfl kq_wC239
theorem kq_okWa_240 (y : Nat) (h1 : 240 ≤ y) (h2 : y < 260) : kq_okW y := by
  rcases (show y = 240 ∨ y = 241 ∨ y = 242 ∨ y = 243 ∨ y = 244 ∨ y = 245 ∨ y = 246 ∨ y = 247 ∨ y = 248 ∨ y = 249 ∨ y = 250 ∨ y = 251 ∨ y = 252 ∨ y = 253 ∨ y = 254 ∨ y = 255 ∨ y = 256 ∨ y = 257 ∨ y = 258 ∨ y = 259 by omega) with rfl | rfl | rfl | rfl | rfl | rfl | rfl | rfl | rfl | rfl | rfl | rfl | rfl | rfl | rfl | rfl | rfl | rfl | rfl | rfl
  · exact kq_okW_of (q0 := kq_q240) rfl kq_wC240
  · exact kq_okW_of (q0 := kq_q241) rfl kq_wC241
  · exact kq_okW_of (q0 := kq_q242) rfl kq_wC242
  · exact kq_okW_of (q0 := kq_q243) rfl kq_wC243
  · exact kq_okW_of (q0 := kq_q244) rfl kq_wC244
  · exact kq_okW_of (q0 := kq_q245) rfl kq_wC245
  · exact kq_okW_of (q0 := kq_q246) rfl kq_wC246
  · exact kq_okW_of (q0 := kq_q247) rfl kq_wC247
  · exact kq_okW_of (q0 := kq_q248) rfl kq_wC248
  · exact kq_okW_of (q0 := kq_q249) rfl kq_wC249
  · exact kq_okW_of (q0 := kq_q250) rfl kq_wC250
  · exact kq_okW_of (q0 := kq_q251) rfl kq_wC251
  · exact kq_okW_of (q0 := kq_q252) rfl kq_wC252
  · exact kq_okW_of (q0 := kq_q253) rfl kq_wC253
  · exact kq_okW_of (q0 := kq_q254) rfl kq_wC254
  · exact kq_okW_of (q0 := kq_q255) rfl kq_wC255
  · exact kq_okW_of (q0 := kq_q256) rfl kq_wC256
  · exact kq_okW_of (q0 := kq_q257) rfl kq_wC257
  · exact kq_okW_of (q0 := kq_q258) rfl kq_wC258
  · exact kq_okW_of (q0 := kq_q259) rfl kq_wC259
theorem kq_okWa_260 (y : Nat) (h1 : 260 ≤ y) (h2 : y < 280) : kq_okW y := by
  rcases (show y = 260 ∨ y = 261 ∨ y = 262 ∨ y = 263 ∨ y = 264 ∨ y = 265 ∨ y = 266 ∨ y = 267 ∨ y = 268 ∨ y = 269 ∨ y = 270 ∨ y = 271 ∨ y = 272 ∨ y = 273 ∨ y = 274 ∨ y = 275 ∨ y = 276 ∨ y = 277 ∨ y = 278 ∨ y = 279 by omega) with rfl | rfl | rfl | rfl | rfl | rfl | rfl | rfl | rfl | rfl | rfl | rfl | rfl | rfl | rfl | rfl | rfl | rfl | rfl | rfl
  · exact kq_okW_of (q0 := kq_q260) rfl kq_wC260
  · exact kq_okW_of (q0 := kq_q261) rfl kq_wC261
  · exact kq_okW_of (q0 := kq_q262) rfl kq_wC262
  · exact kq_okW_of (q0 := kq_q263) rfl kq_wC263
  · exact kq_okW_of (q0 := kq_q264) rfl kq_wC264
  · exact kq_okW_of (q0 := kq_q265) rfl kq_wC265
  · exact kq_okW_of (q0 := kq_q266) rfl kq_wC266
  · exact kq_okW_of (q0 := kq_q267) rfl kq_wC267
  · exact kq_okW_of (q0 := kq_q268) rfl kq_wC268
  · exact kq_okW_of (q0 := kq_q269) rfl kq_wC269
  · exact kq_okW_of (q0 := kq_q270) rfl kq_wC270
  · exact kq_okW_of (q0 := kq_q271) rfl kq_wC271
  · exact kq_okW_of (q0 := kq_q272) rfl kq_wC272
  · exact kq_okW_of (q0 := kq_q273) rfl kq_wC273
  · exact kq_okW_of (q0 := kq_q274) rfl kq_wC274
  · exact kq_okW_of (q0 := kq_q275) rfl kq_wC275
  · exact kq_okW_of (q0 := kq_q276) rfl kq_wC276
  · exact kq_okW_of (q0 := kq_q277) rfl kq_wC277
  · exact kq_okW_of (q0 := kq_q278) rfl kq_wC278
  · exact kq_okW_of (q0 := kq_q279) rfl kq_wC279
theorem kq_okWa_280 (y : Nat) (h1 : 280 ≤ y) (h2 : y < 300) : kq_okW y := by
  rcases (show y = 280 ∨ y = 281 ∨ y = 282 ∨ y = 283 ∨ y = 284 ∨ y = 285 ∨ y = 286 ∨ y = 287 ∨ y = 288 ∨ y = 289 ∨ y = 290 ∨ y = 291 ∨ y = 292 ∨ y = 293 ∨ y = 294 ∨ y = 295 ∨ y = 296 ∨ y = 297 ∨ y = 298 ∨ y = 299 by omega) with rfl | rfl | rfl | rfl | rfl | rfl | rfl | rfl | rfl | rfl | rfl | rfl | rfl | rfl | rfl | rfl | rfl | rfl | rfl | rfl
  · exact kq_okW_of (q0 := kq_q280) rfl kq_wC280
  · exact kq_okW_of (q0 := kq_q281) rfl kq_wC281
  · exact kq_okW_of (q0 := kq_q282) rfl kq_wC282
  · exact kq_okW_of (q0 := kq_q283) rfl kq_wC283
  · exact kq_okW_of (q0 := kq_q284) rfl kq_wC284
  · exact kq_okW_of (q0 := kq_q285) rfl kq_wC285
  · exact kq_okW_of (q0 := kq_q286) rfl kq_wC286
  · exact kq_okW_of (q0 := kq_q287) rfl kq_wC287
  · exact kq_okW_of (q0 := kq_q288) rfl kq_wC288
  · exact kq_okW_of (q0 := kq_q289) rfl kq_wC289
  · exact kq_okW_of (q0 := kq_q290) rfl kq_wC290
  · exact kq_okW_of (q0 := kq_q291) rfl kq_wC291
  · exact kq_okW_of (q0 := kq_q292) rfl kq_wC292
  · exact kq_okW_of (q0 := kq_q293) rfl kq_wC293
  · exact kq_okW_of (q0 := kq_q294) rfl kq_wC294
  · exact kq_okW_of (q0 := kq_q295) rfl kq_wC295
  · exact kq_okW_of (q0 := kq_q296) rfl kq_wC296
  · exact kq_okW_of (q0 := kq_q297) rfl kq_wC297
  · exact kq_okW_of (q0 := kq_q298) rfl kq_wC298
  · exact kq_okW_of (q0 := kq_q299) rfl kq_wC299
theorem kq_okWa_300 (y : Nat) (h1 : 300 ≤ y) (h2 : y < 320) : kq_okW y := by
  rcases (show y = 300 ∨ y = 301 ∨ y = 302 ∨ y = 303 ∨ y = 304 ∨ y = 305 ∨ y = 306 ∨ y = 307 ∨ y = 308 ∨ y = 309 ∨ y = 310 ∨ y = 311 ∨ y = 312 ∨ y = 313 ∨ y = 314 ∨ y = 315 ∨ y = 316 ∨ y = 317 ∨ y = 318 ∨ y = 319 by omega) with rfl | rfl | rfl | rfl | rfl | rfl | rfl | rfl | rfl | rfl | rfl | rfl | rfl | rfl | rfl | rfl | rfl | rfl | rfl | rfl
  · exact kq_okW_of (q0 := kq_q300) rfl kq_wC300
  · exact kq_okW_of (q0 := kq_q301) rfl kq_wC301
  · exact kq_okW_of (q0 := kq_q302) rfl kq_wC302
  · exact kq_okW_of (q0 := kq_q303) rfl kq_wC303
  · exact kq_okW_of (q0 := kq_q304) rfl kq_wC304
  · exact kq_okW_of (q0 := kq_q305) rfl kq_wC305
  · exact kq_okW_of (q0 := kq_q306) rfl kq_wC306
  · exact kq_okW_of (q0 := kq_q307) rfl kq_wC307
  · exact kq_okW_of (q0 := kq_q308) rfl kq_wC308
  · exact kq_okW_of (q0 := kq_q309) rfl kq_wC309
  · exact kq_okW_of (q0 := kq_q310) rfl kq_wC310
  · exact kq_okW_of (q0 := kq_q311) rfl kq_wC311
  · exact kq_okW_of (q0 := kq_q312) rfl kq_wC312
  · exact kq_okW_of (q0 := kq_q313) rfl kq_wC313
  · exact kq_okW_of (q0 := kq_q314) rfl kq_wC314
  · exact kq_okW_of (q0 := kq_q315) rfl kq_wC315
  · exact kq_okW_of (q0 := kq_q316) rfl kq_wC316
  · exact kq_okW_of (q0 := kq_q317) rfl kq_wC317
  · exact kq_okW_of (q0 := kq_q318) rfl kq_wC318
  · exact kq_okW_of (q0 := kq_q319) rfl kq_wC319
theorem kq_okWa_320 (y : Nat) (h1 : 320 ≤ y) (h2 : y < 337) : kq_okW y := by
  rcases (show y = 320 ∨ y = 321 ∨ y = 322 ∨ y = 323 ∨ y = 324 ∨ y = 325 ∨ y = 326 ∨ y = 327 ∨ y = 328 ∨ y = 329 ∨ y = 330 ∨ y = 331 ∨ y = 332 ∨ y = 333 ∨ y = 334 ∨ y = 335 ∨ y = 336 by omega) with rfl | rfl | rfl | rfl | rfl | rfl | rfl | rfl | rfl | rfl | rfl | rfl | rfl | rfl | rfl | rfl | rfl
  · exact kq_okW_of (q0 := kq_q320) rfl kq_wC320
  · exact kq_okW_of (q0 := kq_q321) rfl kq_wC321
  · exact kq_okW_of (q0 := kq_q322) rfl kq_wC322
  · exact kq_okW_of (q0 := kq_q323) rfl kq_wC323
  · exact kq_okW_of (q0 := kq_q324) rfl kq_wC324
  · exact kq_okW_of (q0 := kq_q325) rfl kq_wC325
  · exact kq_okW_of (q0 := kq_q326) rfl kq_wC326
  · exact kq_okW_of (q0 := kq_q327) rfl kq_wC327
  · exact kq_okW_of (q0 := kq_q328) rfl kq_wC328
  · exact kq_okW_of (q0 := kq_q329) rfl kq_wC329
  · exact kq_okW_of (q0 := kq_q330) rfl kq_wC330
  · exact kq_okW_of (q0 := kq_q331) rfl kq_wC331
  · exact kq_okW_of (q0 := kq_q332) rfl kq_wC332
  · exact kq_okW_of (q0 := kq_q333) rfl kq_wC333
  · exact kq_okW_of (q0 := kq_q334) rfl kq_wC334
  · exact kq_okW_of (q0 := kq_q335) rfl kq_wC335
  · exact kq_okW_of (q0 := kq_q336) rfl kq_wC336
theorem kq_okWa (y : Nat) (hy : y < 337) : kq_okW y := by
  rcases Nat.lt_or_ge y 20 with h | h
  · exact kq_okWa_0 y (by omega) h
  rcases Nat.lt_or_ge y 40 with h | h
  · exact kq_okWa_20 y (by omega) h
  rcases Nat.lt_or_ge y 60 with h | h
  · exact kq_okWa_40 y (by omega) h
  rcases Nat.lt_or_ge y 80 with h | h
  · exact kq_okWa_60 y (by omega) h
  rcases Nat.lt_or_ge y 100 with h | h
  · exact kq_okWa_80 y (by omega) h
  rcases Nat.lt_or_ge y 120 with h | h
  · exact kq_okWa_100 y (by omega) h
  rcases Nat.lt_or_ge y 140 with h | h
  · exact kq_okWa_120 y (by omega) h
  rcases Nat.lt_or_ge y 160 with h | h
  · exact kq_okWa_140 y (by omega) h
  rcases Nat.lt_or_ge y 180 with h | h
  · exact kq_okWa_160 y (by omega) h
  rcases Nat.lt_or_ge y 200 with h | h
  · exact kq_okWa_180 y (by omega) h
  rcases Nat.lt_or_ge y 220 with h | h
  · exact kq_okWa_200 y (by omega) h
  rcases Nat.lt_or_ge y 240 with h | h
  · exact kq_okWa_220 y (by omega) h
  rcases Nat.lt_or_ge y 260 with h | h
  · exact kq_okWa_240 y (by omega) h
  rcases Nat.lt_or_ge y 280 with h | h
  · exact kq_okWa_260 y (by omega) h
  rcases Nat.lt_or_ge y 300 with h | h
  · exact kq_okWa_280 y (by omega) h
  rcases Nat.lt_or_ge y 320 with h | h
  · exact kq_okWa_300 y (by omega) h
  exact kq_okWa_320 y (by omega) hy
def kq_ckP (y : Nat) : Bool := match kq_m y with
  | none => true
  | some q => plainName q.1.cls && Nat.ble q.2.2.1 45 && Nat.blt q.2.2.2.2.1 18 && (Nat.beq q.2.2.2.2.1 17 || decide (q.1.cls = kq_cn q.2.2.2.2.1)) && (!(Nat.beq q.2.2.2.2.1 17) || Nat.ble 335 y)
theorem kq_ckP_0 : (List.range' 0 34).all kq_ckP = true := by decide +kernel
theorem kq_ckP_34 : (List.range' 34 34).all kq_ckP = true := by decide +kernel
theorem kq_ckP_68 : (List.range' 68 34).all kq_ckP = true := by decide +kernel
theorem kq_ckP_102 : (List.range' 102 34).all kq_ckP = true := by decide +kernel
theorem kq_ckP_136 : (List.range' 136 34).all kq_ckP = true := by decide +kernel
theorem kq_ckP_170 : (List.range' 170 34).all kq_ckP = true := by decide +kernel
theorem kq_ckP_204 : (List.range' 204 34).all kq_ckP = true := by decide +kernel
theorem kq_ckP_238 : (List.range' 238 34).all kq_ckP = true := by decide +kernel
theorem kq_ckP_272 : (List.range' 272 34).all kq_ckP = true := by decide +kernel
theorem kq_ckP_306 : (List.range' 306 32).all kq_ckP = true := by decide +kernel
theorem kq_ckPa (y : Nat) (hy : y < 338) : kq_ckP y = true := by
  rcases Nat.lt_or_ge y 34 with h | h
  · exact List.all_eq_true.mp kq_ckP_0 y (List.mem_range'_1.mpr ⟨by omega, by omega⟩)
  rcases Nat.lt_or_ge y 68 with h | h
  · exact List.all_eq_true.mp kq_ckP_34 y (List.mem_range'_1.mpr ⟨by omega, by omega⟩)
  rcases Nat.lt_or_ge y 102 with h | h
  · exact List.all_eq_true.mp kq_ckP_68 y (List.mem_range'_1.mpr ⟨by omega, by omega⟩)
  rcases Nat.lt_or_ge y 136 with h | h
  · exact List.all_eq_true.mp kq_ckP_102 y (List.mem_range'_1.mpr ⟨by omega, by omega⟩)
  rcases Nat.lt_or_ge y 170 with h | h
  · exact List.all_eq_true.mp kq_ckP_136 y (List.mem_range'_1.mpr ⟨by omega, by omega⟩)
  rcases Nat.lt_or_ge y 204 with h | h
  · exact List.all_eq_true.mp kq_ckP_170 y (List.mem_range'_1.mpr ⟨by omega, by omega⟩)
  rcases Nat.lt_or_ge y 238 with h | h
  · exact List.all_eq_true.mp kq_ckP_204 y (List.mem_range'_1.mpr ⟨by omega, by omega⟩)
  rcases Nat.lt_or_ge y 272 with h | h
  · exact List.all_eq_true.mp kq_ckP_238 y (List.mem_range'_1.mpr ⟨by omega, by omega⟩)
  rcases Nat.lt_or_ge y 306 with h | h
  · exact List.all_eq_true.mp kq_ckP_272 y (List.mem_range'_1.mpr ⟨by omega, by omega⟩)
  exact List.all_eq_true.mp kq_ckP_306 y (List.mem_range'_1.mpr ⟨by omega, by omega⟩)
def kq_cw0 : List Nat := [2079, 2081, 2083, 2085, 2087, 2089, 2091, 2093]
theorem kq_cx0 : (List.range 8).all (fun k => decide (kq_at (kq_cw0.getD k 0) = some (u_lay "LevelSunday$BookSearch" kq_T0 k))) = true := by decide +kernel
theorem kq_cy0 : (List.range 8).all (fun k => (parseFieldDescriptor (kq_T0 k).2.2.1).isSome) = true := by decide +kernel
theorem kq_cu0 : (List.range 8).all (fun a => (List.range 8).all fun b => Nat.beq a b || decide ((kq_T0 a).2.1 ≠ (kq_T0 b).2.1)) = true := by decide +kernel
def kq_cw1 : List Nat := [1178, 1180, 1182, 1184, 1186, 1188, 1190, 1192, 1194, 1196, 1198, 1200, 1202, 1204, 1206]
theorem kq_cx1 : (List.range 15).all (fun k => decide (kq_at (kq_cw1.getD k 0) = some (u_lay "LevelSunday$Church" kq_T1 k))) = true := by decide +kernel
theorem kq_cy1 : (List.range 15).all (fun k => (parseFieldDescriptor (kq_T1 k).2.2.1).isSome) = true := by decide +kernel
theorem kq_cu1 : (List.range 15).all (fun a => (List.range 15).all fun b => Nat.beq a b || decide ((kq_T1 a).2.1 ≠ (kq_T1 b).2.1)) = true := by decide +kernel
def kq_cw2 : List Nat := [2059, 2061]
theorem kq_cx2 : (List.range 2).all (fun k => decide (kq_at (kq_cw2.getD k 0) = some (u_lay "LevelSunday$Groups" kq_T2 k))) = true := by decide +kernel
theorem kq_cy2 : (List.range 2).all (fun k => (parseFieldDescriptor (kq_T2 k).2.2.1).isSome) = true := by decide +kernel
theorem kq_cu2 : (List.range 2).all (fun a => (List.range 2).all fun b => Nat.beq a b || decide ((kq_T2 a).2.1 ≠ (kq_T2 b).2.1)) = true := by decide +kernel
def kq_cw3 : List Nat := [2112, 2114, 2116, 2118, 2120, 2122, 2124, 2126]
theorem kq_cx3 : (List.range 8).all (fun k => decide (kq_at (kq_cw3.getD k 0) = some (u_lay "LevelSunday$HatSearch" kq_T3 k))) = true := by decide +kernel
theorem kq_cy3 : (List.range 8).all (fun k => (parseFieldDescriptor (kq_T3 k).2.2.1).isSome) = true := by decide +kernel
theorem kq_cu3 : (List.range 8).all (fun a => (List.range 8).all fun b => Nat.beq a b || decide ((kq_T3 a).2.1 ≠ (kq_T3 b).2.1)) = true := by decide +kernel
def kq_cw4 : List Nat := [2018, 2020, 2022, 2024]
theorem kq_cx4 : (List.range 4).all (fun k => decide (kq_at (kq_cw4.getD k 0) = some (u_lay "LevelSunday$Heights" kq_T4 k))) = true := by decide +kernel
theorem kq_cy4 : (List.range 4).all (fun k => (parseFieldDescriptor (kq_T4 k).2.2.1).isSome) = true := by decide +kernel
theorem kq_cu4 : (List.range 4).all (fun a => (List.range 4).all fun b => Nat.beq a b || decide ((kq_T4 a).2.1 ≠ (kq_T4 b).2.1)) = true := by decide +kernel
def kq_cw5 : List Nat := [1099, 1101, 1103, 1105, 1107, 1109, 1111]
theorem kq_cx5 : (List.range 7).all (fun k => decide (kq_at (kq_cw5.getD k 0) = some (u_lay "LevelSunday$People" kq_T5 k))) = true := by decide +kernel
theorem kq_cy5 : (List.range 7).all (fun k => (parseFieldDescriptor (kq_T5 k).2.2.1).isSome) = true := by decide +kernel
theorem kq_cu5 : (List.range 7).all (fun a => (List.range 7).all fun b => Nat.beq a b || decide ((kq_T5 a).2.1 ≠ (kq_T5 b).2.1)) = true := by decide +kernel
def kq_cw6 : List Nat := [1221, 1223, 1225, 1227, 1229, 1231, 1233, 1235, 1237]
theorem kq_cx6 : (List.range 9).all (fun k => decide (kq_at (kq_cw6.getD k 0) = some (u_lay "LevelSunday$Reader" kq_T6 k))) = true := by decide +kernel
theorem kq_cy6 : (List.range 9).all (fun k => (parseFieldDescriptor (kq_T6 k).2.2.1).isSome) = true := by decide +kernel
theorem kq_cu6 : (List.range 9).all (fun a => (List.range 9).all fun b => Nat.beq a b || decide ((kq_T6 a).2.1 ≠ (kq_T6 b).2.1)) = true := by decide +kernel
def kq_cw7 : List Nat := [2166, 2168, 2170, 2172]
theorem kq_cx7 : (List.range 4).all (fun k => decide (kq_at (kq_cw7.getD k 0) = some (u_lay "LevelSunday$Row" kq_T7 k))) = true := by decide +kernel
theorem kq_cy7 : (List.range 4).all (fun k => (parseFieldDescriptor (kq_T7 k).2.2.1).isSome) = true := by decide +kernel
theorem kq_cu7 : (List.range 4).all (fun a => (List.range 4).all fun b => Nat.beq a b || decide ((kq_T7 a).2.1 ≠ (kq_T7 b).2.1)) = true := by decide +kernel
def kq_cw8 : List Nat := [2039, 2041, 2043, 2045, 2047]
theorem kq_cx8 : (List.range 5).all (fun k => decide (kq_at (kq_cw8.getD k 0) = some (u_lay "LevelSunday$Sawing" kq_T8 k))) = true := by decide +kernel
theorem kq_cy8 : (List.range 5).all (fun k => (parseFieldDescriptor (kq_T8 k).2.2.1).isSome) = true := by decide +kernel
theorem kq_cu8 : (List.range 5).all (fun a => (List.range 5).all fun b => Nat.beq a b || decide ((kq_T8 a).2.1 ≠ (kq_T8 b).2.1)) = true := by decide +kernel
def kq_cw9 : List Nat := [2139, 2141, 2143, 2145]
theorem kq_cx9 : (List.range 4).all (fun k => decide (kq_at (kq_cw9.getD k 0) = some (u_lay "LevelSunday$Sightings" kq_T9 k))) = true := by decide +kernel
theorem kq_cy9 : (List.range 4).all (fun k => (parseFieldDescriptor (kq_T9 k).2.2.1).isSome) = true := by decide +kernel
theorem kq_cu9 : (List.range 4).all (fun a => (List.range 4).all fun b => Nat.beq a b || decide ((kq_T9 a).2.1 ≠ (kq_T9 b).2.1)) = true := by decide +kernel
def kq_cw10 : List Nat := [1041, 1043]
theorem kq_cx10 : (List.range 2).all (fun k => decide (kq_at (kq_cw10.getD k 0) = some (u_lay "LevelSunday$Tape" kq_T10 k))) = true := by decide +kernel
theorem kq_cy10 : (List.range 2).all (fun k => (parseFieldDescriptor (kq_T10 k).2.2.1).isSome) = true := by decide +kernel
theorem kq_cu10 : (List.range 2).all (fun a => (List.range 2).all fun b => Nat.beq a b || decide ((kq_T10 a).2.1 ≠ (kq_T10 b).2.1)) = true := by decide +kernel
def kq_cw11 : List Nat := [2188, 2190, 2192, 2194, 2196, 2198, 2200, 2202, 2204, 2206, 2208, 2210]
theorem kq_cx11 : (List.range 12).all (fun k => decide (kq_at (kq_cw11.getD k 0) = some (u_lay "LevelSunday" kq_T11 k))) = true := by decide +kernel
theorem kq_cy11 : (List.range 12).all (fun k => (parseFieldDescriptor (kq_T11 k).2.2.1).isSome) = true := by decide +kernel
theorem kq_cu11 : (List.range 12).all (fun a => (List.range 12).all fun b => Nat.beq a b || decide ((kq_T11 a).2.1 ≠ (kq_T11 b).2.1)) = true := by decide +kernel
def kq_cw12 : List Nat := [6114, 6116, 6118, 6120, 6122, 6124, 6126, 6128, 6130, 6132, 6134, 6136, 6138, 6140, 6142, 6144, 6146, 6148, 6150, 6152, 6154, 6156, 6158, 6160, 6162, 6164, 6166, 6168, 6170, 6172, 6174, 6176, 6178, 6180, 6182, 6184, 6186, 6188, 6190, 6192]
theorem kq_cx12 : (List.range 40).all (fun k => decide (kq_at (kq_cw12.getD k 0) = some (u_lay "LevelSundayModel" kq_T12 k))) = true := by decide +kernel
theorem kq_cy12 : (List.range 40).all (fun k => (parseFieldDescriptor (kq_T12 k).2.2.1).isSome) = true := by decide +kernel
theorem kq_cu12 : (List.range 40).all (fun a => (List.range 40).all fun b => Nat.beq a b || decide ((kq_T12 a).2.1 ≠ (kq_T12 b).2.1)) = true := by decide +kernel
theorem kq_c_of {C : String} {T : u_T} {n : Nat} {pl : List Nat} (h1 : (List.range n).all (fun k => decide (kq_at (pl.getD k 0) = some (u_lay C T k))) = true) (h2 : (List.range n).all (fun k => (parseFieldDescriptor (T k).2.2.1).isSome) = true) (h3 : (List.range n).all (fun a => (List.range n).all fun b => Nat.beq a b || decide ((T a).2.1 ≠ (T b).2.1)) = true) :
    (∀ w ∈ u_ws C T n, w ∈ kq_GW) ∧ (∃ ty0 : Nat → FieldType, ∀ k, k < n → parseFieldDescriptor (T k).2.2.1 = some (ty0 k)) ∧ (∀ a, a < n → ∀ b, b < n → a ≠ b → (T a).2.1 ≠ (T b).2.1) := by
  refine ⟨fun w hw => ?_, ⟨fun k => (parseFieldDescriptor (T k).2.2.1).getD .int, fun k hk => ?_⟩, fun a ha b hb hab => ?_⟩
  · obtain ⟨k, hk, rfl⟩ := List.mem_map.mp hw
    have := List.all_eq_true.mp h1 k hk
    refine kq_at_in (of_decide_eq_true this) ?_
    unfold u_lay
    split <;> rfl
  · have := List.all_eq_true.mp h2 k (List.mem_range.mpr hk)
    cases hp : parseFieldDescriptor (T k).2.2.1 with
    | none => rw [hp] at this; cases this
    | some t => show some t = some ((parseFieldDescriptor (T k).2.2.1).getD .int); rw [hp]; rfl
  · have := List.all_eq_true.mp (List.all_eq_true.mp h3 a (List.mem_range.mpr ha)) b (List.mem_range.mpr hb)
    rcases Bool.or_eq_true_iff.mp this with h | h
    · exact absurd (Nat.eq_of_beq_eq_true h) hab
    · exact of_decide_eq_true h
theorem kq_okC : mx_okC kq_cl kq_GW := by
  intro ci q hq
  have hl : ci < 13 := (List.getElem?_eq_some_iff.mp hq).1
  rcases (show ci = 0 ∨ ci = 1 ∨ ci = 2 ∨ ci = 3 ∨ ci = 4 ∨ ci = 5 ∨ ci = 6 ∨ ci = 7 ∨ ci = 8 ∨ ci = 9 ∨ ci = 10 ∨ ci = 11 ∨ ci = 12 by omega) with rfl | rfl | rfl | rfl | rfl | rfl | rfl | rfl | rfl | rfl | rfl | rfl | rfl
  · cases hq; exact kq_c_of kq_cx0 kq_cy0 kq_cu0
  · cases hq; exact kq_c_of kq_cx1 kq_cy1 kq_cu1
  · cases hq; exact kq_c_of kq_cx2 kq_cy2 kq_cu2
  · cases hq; exact kq_c_of kq_cx3 kq_cy3 kq_cu3
  · cases hq; exact kq_c_of kq_cx4 kq_cy4 kq_cu4
  · cases hq; exact kq_c_of kq_cx5 kq_cy5 kq_cu5
  · cases hq; exact kq_c_of kq_cx6 kq_cy6 kq_cu6
  · cases hq; exact kq_c_of kq_cx7 kq_cy7 kq_cu7
  · cases hq; exact kq_c_of kq_cx8 kq_cy8 kq_cu8
  · cases hq; exact kq_c_of kq_cx9 kq_cy9 kq_cu9
  · cases hq; exact kq_c_of kq_cx10 kq_cy10 kq_cu10
  · cases hq; exact kq_c_of kq_cx11 kq_cy11 kq_cu11
  · cases hq; exact kq_c_of kq_cx12 kq_cy12 kq_cu12
