theorem nI_lsb {x i : Nat} (hi : i < 32) : (nI x).toBitVec.getLsbD i = x.testBit i := by
  show (BitVec.ofNat 32 x).getLsbD i = _
  rw [BitVec.getLsbD_ofNat]
  simp [hi]
theorem nmask {x y : Nat} (hx : x < 256) (hy : y < 256) : ((nI x &&& (nI y ^^^ (-1))) = 0) = (x &&& y = x) := by
  apply propext
  rw [← Int32.toBitVec_inj, Int32.toBitVec_and, Int32.toBitVec_xor]
  constructor
  · intro h
    apply Nat.eq_of_testBit_eq
    intro i
    rw [Nat.testBit_and]
    by_cases hi : i < 32
    · have t := congrArg (fun z => z.getLsbD i) h
      rw [show (-1 : Int32).toBitVec = BitVec.allOnes 32 from rfl] at t
      simp only [BitVec.getLsbD_and, BitVec.getLsbD_xor, nI_lsb hi, BitVec.getLsbD_allOnes] at t
      cases h1 : x.testBit i <;> cases h2 : y.testBit i <;> simp_all
    · have h1 : x.testBit i = false := Nat.testBit_lt_two_pow (Nat.lt_of_lt_of_le hx (by have : 2 ^ 8 ≤ 2 ^ i := Nat.pow_le_pow_right (by decide) (by omega); omega))
      rw [h1, Bool.false_and]
  · intro h
    apply BitVec.eq_of_getLsbD_eq
    intro i hi
    rw [show (-1 : Int32).toBitVec = BitVec.allOnes 32 from rfl]
    simp only [BitVec.getLsbD_and, BitVec.getLsbD_xor, nI_lsb hi, BitVec.getLsbD_allOnes]
    have t := congrArg (fun z => z.testBit i) h
    simp only [Nat.testBit_and] at t
    cases h1 : x.testBit i <;> cases h2 : y.testBit i <;> simp_all
theorem c_kindOf {g : Nat} {kd lb : Nat → Nat} {pt : Nat → Nat → Nat} {iv : mI} {ar : mA} {la : mL} {pA pB : mA} (hg : g ≤ 400) (h : cG g kd lb pt iv ar) {k : Nat} (hk : k < g) : mX3_kindOf (nI k) iv ar la pA pB = some (nI (kd k), iv, ar, la, pA, pB) := by
  simp (disch := omega) only [mX3_kindOf, h.1, (h.2 k hk).1, bitn, bitn0, bit1n, ↓e_m1, ↓e_m2, ↓e_m3, ↓e_m11, ↓e_m12, ↓e_m13, ↓e_m14, ↓e_m15, ↓e_m16, nlit, nle, nlt, neq, ncl, nadd, nmul, obe, obce, upr, aur, m1ne, m1ne2, m1lt, m1le, m1nle, m1nlt, if_pos, if_neg, false_or, or_false, or_self, true_or, or_true, if_true, if_false, ite_true, ite_false, reduceIte, reduceCtorEq, Nat.not_lt_zero, Nat.zero_le, Option.some.injEq, Prod.mk.injEq]
theorem c_labelsOf {g : Nat} {kd lb : Nat → Nat} {pt : Nat → Nat → Nat} {iv : mI} {ar : mA} {la : mL} {pA pB : mA} (hg : g ≤ 400) (h : cG g kd lb pt iv ar) {k : Nat} (hk : k < g) : mX3_labelsOf (nI k) iv ar la pA pB = some (nI (lb k), iv, ar, la, pA, pB) := by
  simp (disch := omega) only [mX3_labelsOf, h.1, (h.2 k hk).2.1, bitn, bitn0, bit1n, ↓e_m1, ↓e_m2, ↓e_m3, ↓e_m11, ↓e_m12, ↓e_m13, ↓e_m14, ↓e_m15, ↓e_m16, nlit, nle, nlt, neq, ncl, nadd, nmul, obe, obce, upr, aur, m1ne, m1ne2, m1lt, m1le, m1nle, m1nlt, if_pos, if_neg, false_or, or_false, or_self, true_or, or_true, if_true, if_false, ite_true, ite_false, reduceIte, reduceCtorEq, Nat.not_lt_zero, Nat.zero_le, Option.some.injEq, Prod.mk.injEq]
theorem c_fit {g : Nat} {kd lb : Nat → Nat} {pt : Nat → Nat → Nat} {iv : mI} {ar : mA} {la : mL} {pA pB : mA} (hg : g ≤ 400) (hG : Gr g kd lb pt) (h : cG g kd lb pt iv ar) {a b : Nat} (ha : a < g) (hb : b < g) : mX5_fitAtSight (nI a) (nI b) iv ar la pA pB = some (if fitB kd lb a b = true then 1 else 0, iv, ar, la, pA, pB) := by
  obtain ⟨ka, la1, -⟩ := hG a ha
  obtain ⟨kb, lb1, -⟩ := hG b hb
  unfold mX5_fitAtSight
  simp only [c_kindOf hg h ha, c_kindOf hg h hb, c_labelsOf hg h ha, c_labelsOf hg h hb, obce, nmask lb1 la1, nmask la1 lb1]
  rw [show (1 : Int32) = nI 1 from rfl, show (0 : Int32) = nI 0 from rfl, show (5 : Int32) = nI 5 from rfl, show (6 : Int32) = nI 6 from rfl]
  simp (disch := omega) only [neq]
  unfold fitB
  by_cases e1 : kd a = 1
  · simp [e1]
  by_cases e2 : kd b = 0
  · simp [e1, e2]
  by_cases e3 : kd a = kd b
  · by_cases e5 : kd a = 5
    · have eb : kd b = 5 := by rw [← e3]; exact e5
      by_cases e7 : lb b &&& lb a = lb b
      · simp [eb, e5, e7]
      · simp [eb, e5, e7]
    · by_cases e6 : kd a = 6
      · have eb : kd b = 6 := by rw [← e3]; exact e6
        by_cases e7 : lb a &&& lb b = lb a
        · simp [eb, e6, e7]
        · simp [eb, e6, e7]
      · have e5' : ¬ kd b = 5 := by rw [← e3]; exact e5
        have e6' : ¬ kd b = 6 := by rw [← e3]; exact e6
        have e1' : ¬ kd b = 1 := by rw [← e3]; exact e1
        simp [e1', e2, e3, e5', e6']
  · simp [e1, e2, e3]
/-- what the search knows at head h, its labels below lc done -/
def bI (kd lb : Nat → Nat) (pt : Nat → Nat → Nat) (a b m : Nat) (qa qb ql qf : Nat → Nat) (W : Nat → List Nat) (h lc : Nat) : Prop :=
  (0 < m ∧ qa 0 = a ∧ qb 0 = b ∧ W 0 = []) ∧ (∀ e, e < m → lead kd lb pt (W e) a b (qa e) (qb e)) ∧
  (∀ e, 0 < e → e < m → qf e < e ∧ W e = W (qf e) ++ [ql e] ∧ (qf e < h ∨ (qf e = h ∧ ql e < lc))) ∧
  (∀ i j, i < j → j < m → wlt (W i) (W j)) ∧ (∀ e, e < h → fitB kd lb (qa e) (qb e) = true) ∧
  (∀ e l, l < 8 → (e < h ∨ (e = h ∧ l < lc)) → e < m → wl lb (qa e) (qb e) l = true → ∃ e2, e2 < m ∧ qa e2 = nxA kd pt (qa e) (qb e) l ∧ qb e2 = nxB kd pt (qa e) (qb e) l ∧ wle (W e2) (W e ++ [l]))
theorem bI_all {kd lb : Nat → Nat} {pt : Nat → Nat → Nat} {a b m : Nat} {qa qb ql qf : Nat → Nat} {W : Nat → List Nat} {h lc : Nat} (hB : bI kd lb pt a b m qa qb ql qf W h lc) (hh : h < m) : ∀ e, e < m → wlt (W e) (W h ++ [lc]) := by
  obtain ⟨⟨h0, -, -, hW0⟩, -, h3, h4, -, -⟩ := hB
  intro e he
  by_cases e0 : e = 0
  · subst e0
    rw [hW0]
    exact Or.inl (by simp)
  · obtain ⟨p1, p2, p3⟩ := h3 e (by omega) he
    rw [p2]
    rcases p3 with p3 | ⟨p3, p4⟩
    · exact wlt_app (h4 _ _ p3 hh)
    · rw [p3]
      exact wlt_last _ p4
theorem bI_skip {kd lb : Nat → Nat} {pt : Nat → Nat → Nat} {a b m : Nat} {qa qb ql qf : Nat → Nat} {W : Nat → List Nat} {h lc : Nat} (hB : bI kd lb pt a b m qa qb ql qf W h lc) (hw : wl lb (qa h) (qb h) lc = false) : bI kd lb pt a b m qa qb ql qf W h (lc + 1) := by
  obtain ⟨h1, h2, h3, h4, h5, h6⟩ := hB
  refine ⟨h1, h2, fun e a1 a2 => ?_, h4, h5, fun e l hl he hm hwl => ?_⟩
  · obtain ⟨p1, p2, p3⟩ := h3 e a1 a2
    exact ⟨p1, p2, p3.imp id (fun q => ⟨q.1, by omega⟩)⟩
  · by_cases hc : e = h ∧ l = lc
    · obtain ⟨rfl, rfl⟩ := hc
      rw [hw] at hwl
      cases hwl
    · exact h6 e l hl (by omega) hm hwl
theorem bI_old {kd lb : Nat → Nat} {pt : Nat → Nat → Nat} {a b m : Nat} {qa qb ql qf : Nat → Nat} {W : Nat → List Nat} {h lc : Nat} (hB : bI kd lb pt a b m qa qb ql qf W h lc) (hh : h < m) {e0 : Nat} (he0 : e0 < m) (ha : qa e0 = nxA kd pt (qa h) (qb h) lc) (hb : qb e0 = nxB kd pt (qa h) (qb h) lc) : bI kd lb pt a b m qa qb ql qf W h (lc + 1) := by
  have hall := bI_all hB hh
  obtain ⟨h1, h2, h3, h4, h5, h6⟩ := hB
  refine ⟨h1, h2, fun e a1 a2 => ?_, h4, h5, fun e l hl he hm hwl => ?_⟩
  · obtain ⟨p1, p2, p3⟩ := h3 e a1 a2
    exact ⟨p1, p2, p3.imp id (fun q => ⟨q.1, by omega⟩)⟩
  · by_cases hc : e = h ∧ l = lc
    · obtain ⟨rfl, rfl⟩ := hc
      exact ⟨e0, he0, ha, hb, wlt_le (hall e0 he0)⟩
    · exact h6 e l hl (by omega) hm hwl
theorem bI_new {kd lb : Nat → Nat} {pt : Nat → Nat → Nat} {a b m : Nat} {qa qb ql qf : Nat → Nat} {W : Nat → List Nat} {h lc : Nat} (hB : bI kd lb pt a b m qa qb ql qf W h lc) (hh : h < m) (hlc : lc < 8) (hf : fitB kd lb (qa h) (qb h) = true) (hw : wl lb (qa h) (qb h) lc = true) : bI kd lb pt a b (m + 1) (va_up qa m (nxA kd pt (qa h) (qb h) lc)) (va_up qb m (nxB kd pt (qa h) (qb h) lc)) (va_up ql m lc) (va_up qf m h) (va_up W m (W h ++ [lc])) h (lc + 1) := by
  have hall := bI_all hB hh
  obtain ⟨⟨h0, a0, b0, w0⟩, h2, h3, h4, h5, h6⟩ := hB
  have hm0 : ¬ (0 : Nat) = m := by omega
  have hhm : ¬ h = m := by omega
  refine ⟨⟨by omega, by simp only [upr, hm0, if_false]; exact a0, by simp only [upr, hm0, if_false]; exact b0, by simp only [upr, hm0, if_false]; exact w0⟩, fun e he => ?_, fun e a1 a2 => ?_, fun i j hij hj => ?_, fun e he => ?_, fun e l hl he hm hwl => ?_⟩
  · by_cases e1 : e = m
    · simp only [upr, e1, if_true]
      exact lead_snoc (h2 h hh) hf hlc hw
    · simp only [upr, e1, if_false]
      exact h2 e (by omega)
  · by_cases e1 : e = m
    · simp only [upr, e1, if_true, hhm, if_false]
      exact ⟨hh, trivial, Or.inr ⟨trivial, by omega⟩⟩
    · obtain ⟨p1, p2, p3⟩ := h3 e a1 (by omega)
      have e2 : ¬ qf e = m := by omega
      simp only [upr, e1, e2, if_false]
      exact ⟨p1, p2, p3.imp id (fun q => ⟨q.1, by omega⟩)⟩
  · have i1 : ¬ i = m := by omega
    by_cases e1 : j = m
    · simp only [upr, e1, i1, if_true, if_false]
      exact hall i (by omega)
    · simp only [upr, e1, i1, if_false]
      exact h4 i j hij (by omega)
  · have e1 : ¬ e = m := by omega
    simp only [upr, e1, if_false]
    exact h5 e he
  · have e1 : ¬ e = m := by omega
    simp only [upr, e1, if_false] at hwl ⊢
    by_cases hc : e = h ∧ l = lc
    · obtain ⟨rfl, rfl⟩ := hc
      exact ⟨m, by omega, by simp only [if_true], by simp only [if_true], by simp only [if_true]; exact wle_refl _⟩
    · obtain ⟨e2, q1, q2, q3, q4⟩ := h6 e l hl (by omega) (by omega) hwl
      have e3 : ¬ e2 = m := by omega
      exact ⟨e2, by omega, by simp only [e3, if_false]; exact q2, by simp only [e3, if_false]; exact q3, by simp only [e3, if_false]; exact q4⟩
