theorem r_fits {g : Nat} {kd lb : Nat → Nat} {pt : Nat → Nat → Nat} {iw : mI} {aw : mA} (hg : g ≤ 200) (hG : Gr g kd lb pt) (h : rG g kd lb pt iw aw) {a b : Nat} (ha : a < g) (hb : b < g) : mX12_fits (nI a) (nI b) iw aw = some (if fitB kd lb a b = true then 1 else 0, iw, aw) := by
  obtain ⟨ka, la1, -⟩ := hG a ha
  obtain ⟨kb, lb1, -⟩ := hG b hb
  obtain ⟨a1, a2, -⟩ := h.2 a ha
  obtain ⟨b1, b2, -⟩ := h.2 b hb
  have ia : ¬ (nI a < 0 ∨ 400 ≤ (nI a).toNatClampNeg) := nI_in (by omega) (by omega)
  have ib : ¬ (nI b < 0 ∨ 400 ≤ (nI b).toNatClampNeg) := nI_in (by omega) (by omega)
  unfold mX12_fits
  simp only [ia, ib, if_false]
  rw [ncl (a := a) (by omega), ncl (a := b) (by omega), a1, a2, b1, b2]
  simp only [nmask lb1 la1, nmask la1 lb1]
  rw [show (1 : Int32) = nI 1 from rfl, show (0 : Int32) = nI 0 from rfl, show (5 : Int32) = nI 5 from rfl, show (6 : Int32) = nI 6 from rfl]
  simp (disch := omega) only [neq]
  unfold fitB
  by_cases e1 : kd a = 1
  · simp [e1]
  by_cases e2 : kd b = 0
  · simp [e1, e2]
  by_cases e3 : kd a = kd b
  · by_cases e5 : kd a = 5
    · have eb : kd b = 5 := by rw [← e3]; exact e5
      by_cases e7 : lb b &&& lb a = lb b
      · simp [eb, e5, e7]
      · simp [eb, e5, e7]
    · by_cases e6 : kd a = 6
      · have eb : kd b = 6 := by rw [← e3]; exact e6
        by_cases e7 : lb a &&& lb b = lb a
        · simp [eb, e6, e7]
        · simp [eb, e6, e7]
      · have e5' : ¬ kd b = 5 := by rw [← e3]; exact e5
        have e6' : ¬ kd b = 6 := by rw [← e3]; exact e6
        have e1' : ¬ kd b = 1 := by rw [← e3]; exact e1
        simp [e1', e2, e3, e5', e6']
  · simp [e1, e2, e3]
/-- of two that fit: the labels that count -/
theorem r_wanted {g : Nat} {kd lb : Nat → Nat} {pt : Nat → Nat → Nat} {iw : mI} {aw : mA} (hg : g ≤ 200) (hG : Gr g kd lb pt) (h : rG g kd lb pt iw aw) {a b : Nat} (ha : a < g) (hb : b < g) (hf : fitB kd lb a b = true) : mX12_wanted (nI a) (nI b) iw aw = some (nI (lb a &&& lb b), iw, aw) := by
  obtain ⟨ka, la1, za, fa, -⟩ := hG a ha
  obtain ⟨kb, lb1, zb, fb, -⟩ := hG b hb
  obtain ⟨a1, a2, -⟩ := h.2 a ha
  obtain ⟨b1, b2, -⟩ := h.2 b hb
  have ia : ¬ (nI a < 0 ∨ 400 ≤ (nI a).toNatClampNeg) := nI_in (by omega) (by omega)
  have ib : ¬ (nI b < 0 ∨ 400 ≤ (nI b).toNatClampNeg) := nI_in (by omega) (by omega)
  unfold mX12_wanted
  simp only [ia, ib, if_false]
  rw [ncl (a := a) (by omega), ncl (a := b) (by omega), a1, a2, b1, b2]
  rw [show (1 : Int32) = nI 1 from rfl, show (0 : Int32) = nI 0 from rfl, show (5 : Int32) = nI 5 from rfl]
  simp (disch := omega) only [neq]
  by_cases e1 : kd a = 1
  · rw [if_pos e1, za (by omega), Nat.zero_and]
  by_cases e2 : kd b = 0
  · rw [if_neg e1, if_pos e2, zb (by omega), Nat.and_zero]
  rw [if_neg e1, if_neg e2]
  unfold fitB at hf
  have e3 : kd a = kd b := by
    apply Classical.byContradiction
    intro h3
    simp [e1, e2, h3] at hf
  by_cases e5 : kd a = 5
  · have e7 : lb b &&& lb a = lb b := by
      apply Classical.byContradiction
      intro h7
      have eb : kd b = 5 := by rw [← e3]; exact e5
      simp [e5, eb, h7] at hf
    rw [if_pos e5, Nat.and_comm, e7]
  · rw [if_neg e5]
    by_cases e6 : kd a = 6
    · have e7 : lb a &&& lb b = lb a := by
        apply Classical.byContradiction
        intro h7
        have eb : kd b = 6 := by rw [← e3]; exact e6
        simp [e6, eb, h7] at hf
      rw [e7]
    · by_cases e4 : kd a = 4
      · rw [fa e4, fb (by omega)]
        rfl
      · rw [za (by omega), Nat.zero_and]
theorem wl_bit {lb : Nat → Nat} {a b l : Nat} : (lb a &&& lb b).testBit l = wl lb a b l := by
  unfold wl
  rw [Nat.testBit_and]
theorem r_part {g : Nat} {kd lb : Nat → Nat} {pt : Nat → Nat → Nat} {iw : mI} {aw : mA} (hg : g ≤ 200) (h : rG g kd lb pt iw aw) {a l : Nat} (ha : a < g) (hl : l < 8) (hb : (lb a).testBit l = true) : mX12_part (nI a) (nI l) iw aw = some (nI (pt a l), iw, aw) := by
  have h6 := (h.2 a ha).2.2 l hl hb
  simp (disch := omega) only [mX12_part, h6, bitn, bitn0, bit1n, ↓e_m1, ↓e_m2, ↓e_m3, ↓e_m11, ↓e_m12, ↓e_m13, ↓e_m14, ↓e_m15, ↓e_m16, nlit, nle, nlt, neq, ncl, nadd, nmul, obe, obce, upr, aur, m1ne, m1ne2, m1lt, m1le, m1nle, m1nlt, if_pos, if_neg, false_or, or_false, or_self, true_or, or_true, if_true, if_false, ite_true, ite_false, reduceIte, reduceCtorEq, Nat.not_lt_zero, Nat.zero_le, Option.some.injEq, Prod.mk.injEq]
theorem r_next {g : Nat} {kd lb : Nat → Nat} {pt : Nat → Nat → Nat} {iw : mI} {aw : mA} (hg : g ≤ 200) (hG : Gr g kd lb pt) (h : rG g kd lb pt iw aw) {a b l : Nat} (ha : a < g) (hb : b < g) (hl : l < 8) (hw : wl lb a b l = true) : mX12_nextPair (nI a) (nI b) (nI l) iw aw = some (nI (400 * nxA kd pt a b l + nxB kd pt a b l), iw, aw) := by
  have hw2 := hw
  unfold wl at hw2
  rw [Bool.and_eq_true] at hw2
  have ka := (hG a ha).1
  have pa := r_part hg h ha hl hw2.1
  have pb := r_part hg h hb hl hw2.2
  have k1 := (h.2 a ha).1
  unfold nxA nxB
  by_cases ek : kd a = 4
  · by_cases el : l = 0
    · subst el
      simp (disch := omega) only [mX12_nextPair, mX12_nextPair_J19, mX12_nextPair_J32, mX12_nextPair_J49, k1, ek, pa, pb, and_self, bitn, bitn0, bit1n, ↓e_m1, ↓e_m2, ↓e_m3, ↓e_m11, ↓e_m12, ↓e_m13, ↓e_m14, ↓e_m15, ↓e_m16, nlit, nle, nlt, neq, ncl, nadd, nmul, obe, obce, upr, aur, m1ne, m1ne2, m1lt, m1le, m1nle, m1nlt, if_pos, if_neg, false_or, or_false, or_self, true_or, or_true, if_true, if_false, ite_true, ite_false, reduceIte, reduceCtorEq, Nat.not_lt_zero, Nat.zero_le, Option.some.injEq, Prod.mk.injEq]
    · simp (disch := omega) only [mX12_nextPair, mX12_nextPair_J19, mX12_nextPair_J32, mX12_nextPair_J49, k1, ek, el, pa, pb, and_false, bitn, bitn0, bit1n, ↓e_m1, ↓e_m2, ↓e_m3, ↓e_m11, ↓e_m12, ↓e_m13, ↓e_m14, ↓e_m15, ↓e_m16, nlit, nle, nlt, neq, ncl, nadd, nmul, obe, obce, upr, aur, m1ne, m1ne2, m1lt, m1le, m1nle, m1nlt, if_pos, if_neg, false_or, or_false, or_self, true_or, or_true, if_true, if_false, ite_true, ite_false, reduceIte, reduceCtorEq, Nat.not_lt_zero, Nat.zero_le, Option.some.injEq, Prod.mk.injEq]
  · simp (disch := omega) only [mX12_nextPair, mX12_nextPair_J19, mX12_nextPair_J32, mX12_nextPair_J49, k1, ek, pa, pb, false_and, bitn, bitn0, bit1n, ↓e_m1, ↓e_m2, ↓e_m3, ↓e_m11, ↓e_m12, ↓e_m13, ↓e_m14, ↓e_m15, ↓e_m16, nlit, nle, nlt, neq, ncl, nadd, nmul, obe, obce, upr, aur, m1ne, m1ne2, m1lt, m1le, m1nle, m1nlt, if_pos, if_neg, false_or, or_false, or_self, true_or, or_true, if_true, if_false, ite_true, ite_false, reduceIte, reduceCtorEq, Nat.not_lt_zero, Nat.zero_le, Option.some.injEq, Prod.mk.injEq]
-- first rows: all is unknown
theorem m_L17 {g : Nat} {iw : mI} (hg : g ≤ 200) (h3 : iw 3 = nI g) {k : Int32 → Int32 → Int32 → mI → mA → Option (Int32 × mI × mA)} {l1 l2 : Int32} {x : Nat} (hx : x < g) : ∀ (n y : Nat) (aw : mA), g < y + n → y ≤ g → ∃ aw2, mX12_measure_L17 k n l1 l2 (nI x) (nI y) iw aw = k l1 l2 (nI (x + 1)) iw aw2 ∧ (∀ j, j ≠ 7 → j ≠ 9 → aw2 j = aw j) ∧ (∀ p, (aw2 7 p = aw 7 p ∧ aw2 9 p = aw 9 p) ∨ (aw2 7 p = m1 ∧ aw2 9 p = m1)) ∧ ∀ z, y ≤ z → z < g → aw2 7 (400 * x + z) = m1 ∧ aw2 9 (400 * x + z) = m1 := by
  intro n
  induction n with
  | zero => intro y aw h1 h2; omega
  | succ n ih =>
    intro y aw h1 h2
    unfold mX12_measure_L17
    rw [h3]
    by_cases hy : y = g
    · subst hy
      refine ⟨aw, ?_, fun _ _ _ => rfl, fun p => Or.inl ⟨rfl, rfl⟩, fun z h4 h5 => by omega⟩
      rw [if_pos (nI_le (Nat.le_refl y) (by omega)), show (1 : Int32) = nI 1 from rfl, nadd]
    · have e1 : (400 * nI x + nI y : Int32) = nI (400 * x + y) := by rw [show (400 : Int32) = nI 400 from rfl, nmul, nadd]
      rw [if_neg (nI_ge (by omega) (by omega)), e1, if_neg (nI_in (by omega) (by omega)), if_neg (nI_in (by omega) (by omega)), ncl (by omega), show (1 : Int32) = nI 1 from rfl, nadd]
      obtain ⟨aw2, r1, r2, r3, r4⟩ := ih (y + 1) (au (au aw 7 (400 * x + y) (-nI 1)) 9 (400 * x + y) (-nI 1)) (by omega) (by omega)
      have em : (-nI 1 : Int32) = m1 := rfl
      have q7 : ∀ p, au (au aw 7 (400 * x + y) (-nI 1)) 9 (400 * x + y) (-nI 1) 7 p = if p = 400 * x + y then m1 else aw 7 p := by
        intro p; simp [aur, em]
      have q9 : ∀ p, au (au aw 7 (400 * x + y) (-nI 1)) 9 (400 * x + y) (-nI 1) 9 p = if p = 400 * x + y then m1 else aw 9 p := by
        intro p; simp [aur, em]
      refine ⟨aw2, r1, fun j j1 j2 => ?_, fun p => ?_, fun z h4 h5 => ?_⟩
      · rw [r2 j j1 j2]
        unfold au
        rw [va_up_ne _ _ j2, va_up_ne _ _ j1]
      · rcases r3 p with ⟨s1, s2⟩ | s
        · rw [s1, s2, q7, q9]
          by_cases e : p = 400 * x + y
          · rw [if_pos e, if_pos e]; exact Or.inr ⟨rfl, rfl⟩
          · rw [if_neg e, if_neg e]; exact Or.inl ⟨rfl, rfl⟩
        · exact Or.inr s
      · by_cases e : z = y
        · subst e
          rcases r3 (400 * x + z) with ⟨s1, s2⟩ | s
          · rw [s1, s2, q7, q9, if_pos rfl, if_pos rfl]; exact ⟨rfl, rfl⟩
          · exact s
        · exact r4 z (by omega) h5
theorem m_L6 {g : Nat} {iw : mI} (hg : g ≤ 200) (h3 : iw 3 = nI g) : ∀ (n x : Nat) (aw : mA), g < x + n → x ≤ g → ∃ aw2, mX12_measure_L6 n 0 0 (nI x) iw aw = mX12_measure_L68 bigF 0 0 0 iw aw2 ∧ (∀ j, j ≠ 7 → j ≠ 9 → aw2 j = aw j) ∧ (∀ p, (aw2 7 p = aw 7 p ∧ aw2 9 p = aw 9 p) ∨ (aw2 7 p = m1 ∧ aw2 9 p = m1)) ∧ ∀ z y, x ≤ z → z < g → y < g → aw2 7 (400 * z + y) = m1 ∧ aw2 9 (400 * z + y) = m1 := by
  intro n
  induction n with
  | zero => intro x aw h1 h2; omega
  | succ n ih =>
    intro x aw h1 h2
    unfold mX12_measure_L6
    rw [h3]
    by_cases hx : x = g
    · subst hx
      refine ⟨aw, ?_, fun _ _ _ => rfl, fun p => Or.inl ⟨rfl, rfl⟩, fun z y h4 h5 => by omega⟩
      rw [if_pos (nI_le (Nat.le_refl x) (by omega))]
    · rw [if_neg (nI_ge (by omega) (by omega))]
      obtain ⟨aw1, s1, s2, s3, s4⟩ := m_L17 hg h3 (k := mX12_measure_L6 n) (l1 := 0) (l2 := 0) (x := x) (by omega) bigF 0 aw (by unfold bigF; omega) (by omega)
      obtain ⟨aw2, r1, r2, r3, r4⟩ := ih (x + 1) aw1 (by omega) (by omega)
      refine ⟨aw2, ?_, fun j j1 j2 => (r2 j j1 j2).trans (s2 j j1 j2), fun p => ?_, fun z y h4 h5 h6 => ?_⟩
      · rw [← r1]
        exact s1
      · rcases r3 p with ⟨q1, q2⟩ | q
        · rw [q1, q2]; exact s3 p
        · exact Or.inr q
      · by_cases e : z = x
        · subst e
          rcases r3 (400 * z + y) with ⟨q1, q2⟩ | q
          · rw [q1, q2]; exact s4 y (by omega) h6
          · exact q
        · exact r4 z y (by omega) h5 h6
