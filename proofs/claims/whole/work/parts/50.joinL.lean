theorem lone_val {f : Nat} {kd lb : Nat → Nat} {pt : Nat → Nat → Nat} {th ta tb : Nat → Nat} {rs : Nat → Nat → Nat} (hGr : Gr f kd lb pt) (hf : f ≤ 200) {o l : Nat} (hh : th o < 2) (ha : ta o < f) (hb : tb o < f) (hk : 4 ≤ jkind kd (th o) (ta o) (tb o)) (hl : l < 8) (hnb : jboth lb (ta o) (tb o) l = false) :
    (if (th o = 0 ↔ jkind kd (th o) (ta o) (tb o) = 6) then (if (if (lb (ta o)).testBit l = true then nI (pt (ta o) l) else m1) = m1 then (if (lb (tb o)).testBit l = true then nI (pt (tb o) l) else m1) else (if (lb (ta o)).testBit l = true then nI (pt (ta o) l) else m1)) else m1) = (if (jlab kd lb (th o) (ta o) (tb o)).testBit l = true then nI (jtgt lb pt ta tb rs o l) else m1) := by
  obtain ⟨e1, e2⟩ := jkind_ge (kd := kd) (a := ta o) (b := tb o) hh hk
  obtain ⟨a1, a2, a3, a4, a5⟩ := hGr (ta o) ha
  obtain ⟨b1, b2, b3, b4, b5⟩ := hGr (tb o) hb
  have hor : (if (if (lb (ta o)).testBit l = true then nI (pt (ta o) l) else m1) = m1 then (if (lb (tb o)).testBit l = true then nI (pt (tb o) l) else m1) else (if (lb (ta o)).testBit l = true then nI (pt (ta o) l) else m1)) = (if (lb (ta o) ||| lb (tb o)).testBit l = true then nI (jtgt lb pt ta tb rs o l) else m1) := by
    unfold jtgt
    rw [hnb, Nat.testBit_or]
    by_cases x : (lb (ta o)).testBit l = true
    · have := a5 l hl x
      rw [x]
      simp only [if_true, Bool.true_or, Bool.false_eq_true, if_false]
      rw [if_neg (by rw [m1ne (by omega)]; exact id)]
    · by_cases y : (lb (tb o)).testBit l = true
      · have x' : (lb (ta o)).testBit l = false := by simpa using x
        rw [x', y]
        simp only [if_true, Bool.or_true, Bool.false_eq_true, if_false]
      · have x' : (lb (ta o)).testBit l = false := by simpa using x
        have y' : (lb (tb o)).testBit l = false := by simpa using y
        rw [x', y']
        simp only [Bool.or_false, Bool.false_eq_true, if_false, if_true]
  have hand : (lb (ta o) &&& lb (tb o)).testBit l = false := by
    rw [Nat.testBit_and]
    exact hnb
  unfold jlab
  rw [if_neg (show ¬ jkind kd (th o) (ta o) (tb o) < 4 by omega)]
  by_cases k4 : jkind kd (th o) (ta o) (tb o) = 4
  · have l3 : lb (ta o) = 3 := a4 (by omega)
    have m3' : lb (tb o) = 3 := b4 (by omega)
    have hz : (3 : Nat).testBit l = false := by
      rw [l3, m3', Nat.and_self] at hand
      exact hand
    rw [if_pos k4, l3, m3', hz]
    simp only [Bool.false_eq_true, if_false, if_true]
    split <;> rfl
  · rw [if_neg k4]
    by_cases c : (jkind kd (th o) (ta o) (tb o) = 5 ∧ th o = 0) ∨ (jkind kd (th o) (ta o) (tb o) = 6 ∧ th o = 1)
    · rw [if_pos c, hand, if_neg (show ¬ (th o = 0 ↔ jkind kd (th o) (ta o) (tb o) = 6) by omega)]
      rfl
    · rw [if_neg c, if_pos (show (th o = 0 ↔ jkind kd (th o) (ta o) (tb o) = 6) by omega)]
      exact hor
theorem c_turn8 {f n : Nat} {kd lb : Nat → Nat} {pt : Nat → Nat → Nat} {th ta tb P : Nat → Nat} {rs : Nat → Nat → Nat} {o : Nat} {os : List Nat} {iv : mI} {ar : mA} {la : mL} {pA pB : mA} (hC : jC f n kd lb pt th ta tb P P rs (o :: os) iv ar) (hos : os.length < 200) (hP : P o = 8) {t : Nat} (ht : t < 1800) {x y : Int32} (hy : ¬ y = -3) (fu : Nat) :
    mX0_join_L32 (fu + 1) x y (nI t) iv ar la pA pB = mX0_join_L32 fu x y (nI (t + 1)) (va_up iv 4 (nI os.length)) ar la pA pB ∧ jC f n kd lb pt th ta tb P P rs os (va_up iv 4 (nI os.length)) ar := by
  obtain ⟨⟨c1, c2, c3⟩, c4, c5, c6, c7, c8⟩ := hC
  rw [List.length_cons] at c3
  rw [hP] at c7
  refine ⟨?_, ⟨by rw [va_up_ne _ _ (by decide)]; exact c1, by rw [va_up_ne _ _ (by decide)]; exact c2, va_up_self _ _ _⟩, c4, c5, c8⟩
  rw [mX0_join_L32, c3, if_neg (show ¬ nI (os.length + 1) ≤ 0 from nI_ge (show 0 < os.length + 1 by omega) (by omega)), if_neg hy, if_neg (show ¬ (1800 : Int32) ≤ nI t from nI_ge ht (by decide)), show (1 : Int32) = nI 1 from rfl, nsub (by omega), Nat.add_sub_cancel, if_neg (nI_in (by omega) (by omega)), if_neg (nI_in (by omega) (by omega)), ncl (by omega), c7, if_neg (by decide), nadd]
