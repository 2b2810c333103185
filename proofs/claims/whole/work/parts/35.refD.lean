theorem nin2 {c N : Nat} (h : c < N) (hN : N < 2147483648) : ¬ (nI c < 0 ∨ N ≤ c) := by
  rintro (h1 | h1)
  · exact nI_pos (by omega) h1
  · omega
/-- what the second search knows: t pairs are queued, h done -/
def p3 (g : Nat) (kd lb : Nat → Nat) (pt : Nat → Nat → Nat) (t h : Nat) (qx qy fd : Nat → Nat) (aw : mA) : Prop :=
  (∀ i, i < t → qx i < g ∧ qy i < g ∧ aw 8 i = nI (400 * qx i + qy i) ∧ aw 7 (400 * qx i + qy i) = nI (fd i) ∧ fd i ≤ i ∧ ∃ v, isBad kd lb pt (qx i) (qy i) v ∧ v.length = fd i) ∧
  (∀ i j, i < t → j < t → qx i = qx j → qy i = qy j → i = j) ∧
  (∀ x y, x < g → y < g → (∀ i, i < t → ¬ (qx i = x ∧ qy i = y)) → aw 7 (400 * x + y) = m1) ∧
  (∀ x y, x < g → y < g → fitB kd lb x y = false → ∃ i, i < t ∧ qx i = x ∧ qy i = y ∧ fd i = 0) ∧
  (∀ i j, i ≤ j → j < t → fd i ≤ fd j) ∧ (∀ j, j < t → h < t → fd j ≤ fd h + 1) ∧
  (∀ i x y l, i < h → i < t → x < g → y < g → l < 8 → fitB kd lb x y = true → wl lb x y l = true → nxA kd pt x y l = qx i → nxB kd pt x y l = qy i → ∃ j, j < t ∧ qx j = x ∧ qy j = y ∧ fd j ≤ fd i + 1)
theorem p3_cap {g t : Nat} {qx qy : Nat → Nat} (hg : g ≤ 200) (h1 : ∀ i, i < t → qx i < g ∧ qy i < g) (h2 : ∀ i j, i < t → j < t → qx i = qx j → qy i = qy j → i = j) : t ≤ 40000 := by
  refine pigeon 40000 t (fun i => qx i * 200 + qy i) (fun i hi => ?_) (fun i j hi hj e => ?_)
  · have := h1 i hi
    show qx i * 200 + qy i < 40000
    omega
  · have a := h1 i hi
    have b := h1 j hj
    have e : qx i * 200 + qy i = qx j * 200 + qy j := e
    exact h2 i j hi hj (by omega) (by omega)
theorem bad_cons {kd lb : Nat → Nat} {pt : Nat → Nat → Nat} {x y l : Nat} {v : List Nat} (hf : fitB kd lb x y = true) (hl : l < 8) (hw : wl lb x y l = true) (h : isBad kd lb pt (nxA kd pt x y l) (nxB kd pt x y l) v) : isBad kd lb pt x y (l :: v) := by
  obtain ⟨a, b, h1, h2⟩ := h
  exact ⟨a, b, ⟨hf, hl, hw, h1⟩, h2⟩
/-- the row of what leads to the head's pair -/
theorem m_L175 {g : Nat} {kd lb : Nat → Nat} {pt : Nat → Nat → Nat} {iw : mI} (hg : g ≤ 200) {k : Int32 → Int32 → mI → mA → Option (Int32 × mI × mA)} {h n : Nat} {aw0 : mA} (hn : n ≤ 320000) : ∀ (bl : List Nat) (fu : Nat) (t : Nat) (qx qy fd : Nat → Nat) (s : Int32) (aw : mA), bl.length < fu → h < t → p3 g kd lb pt t h qx qy fd aw → lk aw n bl s → (∀ c, c ∈ bl → ∃ x y l, c = 400 * x + y ∧ x < g ∧ y < g ∧ l < 8 ∧ fitB kd lb x y = true ∧ wl lb x y l = true ∧ nxA kd pt x y l = qx h ∧ nxB kd pt x y l = qy h) → (∀ j, j ≠ 7 → j ≠ 8 → aw j = aw0 j) →
    ∃ (t2 : Nat) (qx2 qy2 fd2 : Nat → Nat) (aw2 : mA), mX12_measure_L175 k fu (nI t) (nI h) (nI (400 * qx h + qy h)) s iw aw = k (nI t2) (nI (h + 1)) iw aw2 ∧ t ≤ t2 ∧ (∀ i, i < t → qx2 i = qx i ∧ qy2 i = qy i ∧ fd2 i = fd i) ∧ p3 g kd lb pt t2 h qx2 qy2 fd2 aw2 ∧ (∀ j, j ≠ 7 → j ≠ 8 → aw2 j = aw0 j) ∧ (∀ c, c ∈ bl → ∃ j, j < t2 ∧ 400 * qx2 j + qy2 j = c ∧ fd2 j ≤ fd2 h + 1) := by
  intro bl
  induction bl with
  | nil =>
    intro fu t qx qy fd s aw hfu hh hp hlk hc hk
    obtain ⟨fu, rfl⟩ : ∃ m, fu = m + 1 := ⟨fu - 1, by simp at hfu; omega⟩
    have hlk : s = m1 := hlk
    subst hlk
    refine ⟨t, qx, qy, fd, aw, ?_, Nat.le_refl t, fun _ _ => ⟨rfl, rfl, rfl⟩, hp, hk, fun c hc => by cases hc⟩
    unfold mX12_measure_L175
    rw [if_pos (show m1 < 0 by decide), show (1 : Int32) = nI 1 from rfl, nadd]
  | cons c bl ih =>
    intro fu t qx qy fd s aw hfu hh hp hlk hc hk
    obtain ⟨fu, rfl⟩ : ∃ m, fu = m + 1 := ⟨fu - 1, by simp at hfu; omega⟩
    obtain ⟨w, hw, rfl, h11, hlk2⟩ := hlk
    have hlk2 : lk aw n bl (aw 10 w) := lk_mono bl w n _ (by omega) (fun _ _ => ⟨rfl, rfl⟩) hlk2
    obtain ⟨x, y, l, rfl, hx, hy, hl, hf, hwl, e1, e2⟩ := hc c List.mem_cons_self
    obtain ⟨a1, a2, a3, a4, a5, a6, a7⟩ := id hp
    have hcap := p3_cap hg (fun i hi => ⟨(a1 i hi).1, (a1 i hi).2.1⟩) a2
    obtain ⟨b1, b2, b3, b4, b5, ⟨v, b6, b7⟩⟩ := a1 h hh
    unfold mX12_measure_L175
    rw [if_neg (nI_pos (by omega)), if_neg (nI_in (by omega) (by omega)), ncl (a := w) (by omega), h11, if_neg (nI_in (by omega) (by omega)), ncl (a := 400 * x + y) (by omega)]
    by_cases hex : ∃ j, j < t ∧ qx j = x ∧ qy j = y
    · obtain ⟨j, hj, rfl, rfl⟩ := hex
      obtain ⟨c1, c2, c3, c4, c5, c6⟩ := a1 j hj
      rw [c4, if_pos (nI_pos' (by omega))]
      have hfu2 : bl.length < fu := by simp at hfu; omega
      obtain ⟨t2, qx2, qy2, fd2, aw2, r1, r2, r3, r4, r5, r6⟩ := ih fu t qx qy fd (aw 10 w) aw hfu2 hh hp hlk2 (fun c hc' => hc c (List.mem_cons_of_mem _ hc')) hk
      rw [if_neg (nin2 (by omega) (by omega))]
      refine ⟨t2, qx2, qy2, fd2, aw2, r1, r2, r3, r4, r5, fun c hc' => ?_⟩
      rcases List.mem_cons.mp hc' with rfl | hc'
      · obtain ⟨d1, d2, d3⟩ := r3 j hj
        obtain ⟨_, _, d4⟩ := r3 h hh
        exact ⟨j, by omega, by rw [d1, d2], by rw [d3, d4]; exact a6 j hj hh⟩
      · exact r6 c hc'
    · have hnot : ∀ i, i < t → ¬ (qx i = x ∧ qy i = y) := fun i hi q => hex ⟨i, hi, q⟩
      have h7 := a3 x y hx hy hnot
      rw [h7, if_neg (show ¬ (0 : Int32) ≤ m1 by decide), if_neg (nI_in (by omega) (by omega)), if_neg (nin2 (by omega) (by omega)), if_neg (nI_in (by omega) (by omega)), if_neg (nin2 (by omega) (by omega)), ncl (a := 400 * qx h + qy h) (by omega), ncl (a := t) (by omega), b4, show (1 : Int32) = nI 1 from rfl, nadd, nadd]
      have q7 : ∀ p, au (au aw 7 (400 * x + y) (nI (fd h + 1))) 8 t (nI (400 * x + y)) 7 p = if p = 400 * x + y then nI (fd h + 1) else aw 7 p := by
        intro p; simp [aur]
      have q8 : ∀ p, au (au aw 7 (400 * x + y) (nI (fd h + 1))) 8 t (nI (400 * x + y)) 8 p = if p = t then nI (400 * x + y) else aw 8 p := by
        intro p; simp [aur]
      have qo : ∀ j, j ≠ 7 → j ≠ 8 → au (au aw 7 (400 * x + y) (nI (fd h + 1))) 8 t (nI (400 * x + y)) j = aw j := by
        intro j j1 j2
        unfold au
        rw [va_up_ne _ _ j2, va_up_ne _ _ j1]
      generalize au (au aw 7 (400 * x + y) (nI (fd h + 1))) 8 t (nI (400 * x + y)) = aw' at *
      have ht : ¬ h = t := by omega
      have hp' : p3 g kd lb pt (t + 1) h (va_up qx t x) (va_up qy t y) (va_up fd t (fd h + 1)) aw' := by
        refine ⟨fun i hi => ?_, fun i j hi hj g1 g2 => ?_, fun x' y' hx' hy' hn' => ?_, fun x' y' hx' hy' hu => ?_, fun i j hij hj => ?_, fun j hj hht => ?_, fun i x' y' l' hi hit hx' hy' hl' hf' hw' n1 n2 => ?_⟩
        · simp only [upr]
          by_cases e : i = t
          · simp only [e, if_true]
            rw [q8, q7, if_pos rfl, if_pos rfl]
            refine ⟨hx, hy, by first | trivial | rfl, by first | trivial | rfl, by omega, l :: v, bad_cons hf hl hwl (by rw [e1, e2]; exact b6), by simp; omega⟩
          · simp only [e, if_false]
            obtain ⟨c1, c2, c3, c4, c5, c6⟩ := a1 i (by omega)
            have hne : ¬ 400 * qx i + qy i = 400 * x + y := fun q => hnot i (by omega) ⟨by omega, by omega⟩
            rw [q8, q7, if_neg e, if_neg hne]
            exact ⟨c1, c2, c3, c4, c5, c6⟩
        · simp only [upr] at g1 g2
          by_cases i1 : i = t <;> by_cases j1 : j = t
          · omega
          · simp only [i1, j1, if_true, if_false] at g1 g2
            exact absurd ⟨g1.symm, g2.symm⟩ (hnot j (by omega))
          · simp only [i1, j1, if_true, if_false] at g1 g2
            exact absurd ⟨g1, g2⟩ (hnot i (by omega))
          · simp only [i1, j1, if_false] at g1 g2
            exact a2 i j (by omega) (by omega) g1 g2
        · have hne : ¬ 400 * x' + y' = 400 * x + y := by
            intro q
            refine hn' t (by omega) ?_
            simp only [upr, if_true]
            omega
          rw [q7, if_neg hne]
          refine a3 x' y' hx' hy' (fun i hi q => ?_)
          have it : ¬ i = t := by omega
          exact hn' i (by omega) (by simp only [upr, it, if_false]; exact q)
        · obtain ⟨i, d1, d2, d3, d4⟩ := a4 x' y' hx' hy' hu
          have it : ¬ i = t := by omega
          exact ⟨i, by omega, by simp only [upr, it, if_false]; exact d2, by simp only [upr, it, if_false]; exact d3, by simp only [upr, it, if_false]; exact d4⟩
        · simp only [upr]
          by_cases i1 : i = t <;> by_cases j1 : j = t
          · simp only [i1, j1, if_true]; omega
          · omega
          · simp only [i1, j1, if_true, if_false]
            exact a6 i (by omega) hh
          · simp only [i1, j1, if_false]
            exact a5 i j hij (by omega)
        · simp only [upr, ht, if_false]
          by_cases j1 : j = t
          · simp only [j1, if_true]; omega
          · simp only [j1, if_false]
            exact a6 j (by omega) hh
        · have it : ¬ i = t := by omega
          simp only [upr, it, if_false] at n1 n2 ⊢
          obtain ⟨j, d1, d2, d3, d4⟩ := a7 i x' y' l' hi (by omega) hx' hy' hl' hf' hw' n1 n2
          have jt : ¬ j = t := by omega
          exact ⟨j, by omega, by simp only [jt, if_false]; exact d2, by simp only [jt, if_false]; exact d3, by simp only [jt, if_false]; exact d4⟩
      have hlk3 : lk aw' n bl (aw' 10 w) := by
        rw [qo 10 (by decide) (by decide)]
        exact lk_mono bl n n _ (Nat.le_refl n) (fun z _ => ⟨by rw [qo 11 (by decide) (by decide)], by rw [qo 10 (by decide) (by decide)]⟩) hlk2
      have hfu2 : bl.length < fu := by simp at hfu; omega
      obtain ⟨t2, qx2, qy2, fd2, aw2, r1, r2, r3, r4, r5, r6⟩ := ih fu (t + 1) _ _ _ (aw' 10 w) aw' hfu2 (by omega) hp' hlk3 (fun c hc' => by
        simp only [upr, ht, if_false]
        exact hc c (List.mem_cons_of_mem _ hc')) (fun j j1 j2 => (qo j j1 j2).trans (hk j j1 j2))
      simp only [upr, ht, if_false] at r1
      refine ⟨t2, qx2, qy2, fd2, aw2, r1, by omega, fun i hi => ?_, r4, r5, fun c hc' => ?_⟩
      · have it : ¬ i = t := by omega
        have := r3 i (by omega)
        simp only [upr, it, if_false] at this
        exact this
      · rcases List.mem_cons.mp hc' with rfl | hc'
        · obtain ⟨d1, d2, d3⟩ := r3 t (by omega)
          obtain ⟨_, _, d4⟩ := r3 h (by omega)
          simp only [upr, ht, if_true, if_false] at d1 d2 d3 d4
          exact ⟨t, by omega, by rw [d1, d2], by rw [d3, d4]; omega⟩
        · exact r6 c hc'
