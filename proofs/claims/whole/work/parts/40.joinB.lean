theorem c_top {f n : Nat} {kd : Nat → Nat} {iv : mI} {ar : mA} {la : mL} {pA pB : mA} (hn : n ≤ 200) (hfn : f ≤ n) (h303 : iv 303 = nI n) (hk : ∀ k, k < f → ar 300 k = nI (kd k)) (hk6 : ∀ k, k < f → kd k ≤ 6) {h a b : Nat} (hh : h < 2) (ha : a < f) (hb : b < f) : mX0_joinTop (nI h) (nI a) (nI b) iv ar la pA pB = match jsim kd h a b with | some r => some (nI r, iv, ar, la, pA, pB) | none => mX0_joinTop_J124 (nI h) (nI a) (nI b) (nI h) (nI (kd a)) (nI (kd b)) iv ar la pA pB := by
  have ka := hk6 a ha
  have kb := hk6 b hb
  have e0 : h = 0 ∨ h = 1 := by omega
  have eka : mX3_kindOf (nI a) iv ar la pA pB = some (nI (kd a), iv, ar, la, pA, pB) := by
    unfold mX3_kindOf
    rw [h303, if_neg (nI_pos (by omega)), if_neg (nI_ge (by omega) (by omega)), if_neg (nI_in (by omega) (by omega)), ncl (by omega), hk a ha]
  have ekb : mX3_kindOf (nI b) iv ar la pA pB = some (nI (kd b), iv, ar, la, pA, pB) := by
    unfold mX3_kindOf
    rw [h303, if_neg (nI_pos (by omega)), if_neg (nI_ge (by omega) (by omega)), if_neg (nI_in (by omega) (by omega)), ncl (by omega), hk b hb]
  have hJ : mX0_joinTop (nI h) (nI a) (nI b) iv ar la pA pB = mX0_joinTop_J20 (nI h) (nI a) (nI b) (nI (1 - h)) (nI h) iv ar la pA pB := by
    rcases e0 with rfl | rfl
    · unfold mX0_joinTop mX0_joinTop_J9
      rw [if_pos (show nI 0 = 0 from rfl), if_pos (show nI 0 = 0 from rfl)]
      rfl
    · unfold mX0_joinTop mX0_joinTop_J9
      rw [if_neg (by decide), if_neg (by decide)]
      rfl
  rw [hJ]
  unfold mX0_joinTop_J20 mX0_joinTop_J63 mX0_joinTop_J90
  rw [eka, obce, ekb, obce]
  rw [show (2 : Int32) = nI 2 from rfl, show (3 : Int32) = nI 3 from rfl]
  simp (disch := omega) only [neq]
  unfold jsim
  by_cases q1 : a = b
  · simp only [q1, if_true]
  by_cases q2 : kd a = 1 - h
  · simp only [q1, q2, if_true, if_false]
  by_cases q3 : kd b = 1 - h
  · simp only [q1, q2, q3, if_true, if_false]
  by_cases q4 : kd a = h
  · simp only [q1, q2, q3, q4, if_true, if_false]
    simp only [q4] at q2
    simp only [q2, if_false]
  by_cases q5 : kd b = h
  · simp only [q1, q2, q3, q4, q5, if_true, if_false]
    simp only [q5] at q3
    simp only [q3, if_false]
  by_cases q6 : kd a = kd b
  · by_cases q7 : kd a = 2
    · simp only [q1, q2, q3, q4, q5, q6, q7, if_true, if_false, true_or, and_self]
      simp only [← q6, q7] at *
      simp [q2, q4]
    · by_cases q8 : kd a = 3
      · simp only [q1, q2, q3, q4, q5, if_false]
        rw [if_pos q6, if_neg q7, if_pos q8, if_pos ⟨q6, Or.inr q8⟩]
      · simp only [q1, q2, q3, q4, q5, if_false]
        rw [if_pos q6, if_neg q7, if_neg q8, if_neg (fun z => z.2.elim q7 q8)]
  · simp only [q1, q2, q3, q4, q5, if_false]
    rw [if_neg q6, if_neg (fun z => q6 z.1)]
