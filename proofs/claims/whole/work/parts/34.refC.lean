def p2 (g : Nat) (kd lb : Nat → Nat) (X Y t : Nat) (qx qy : Nat → Nat) (aw : mA) : Prop :=
  t ≤ X * g + Y ∧ (∀ i, i < t → qx i < g ∧ qy i < g ∧ aw 8 i = nI (400 * qx i + qy i) ∧ fitB kd lb (qx i) (qy i) = false ∧ aw 7 (400 * qx i + qy i) = nI 0 ∧ (qx i < X ∨ (qx i = X ∧ qy i < Y))) ∧
  (∀ i j, i < t → j < t → qx i = qx j → qy i = qy j → i = j) ∧
  (∀ x y, x < g → y < g → (x < X ∨ (x = X ∧ y < Y)) → fitB kd lb x y = false → ∃ i, i < t ∧ qx i = x ∧ qy i = y) ∧
  (∀ x y, x < g → y < g → (∀ i, i < t → ¬ (qx i = x ∧ qy i = y)) → aw 7 (400 * x + y) = m1)
theorem p2_same {g : Nat} {kd lb : Nat → Nat} {X Y t : Nat} {qx qy : Nat → Nat} {aw aw' : mA} (h : p2 g kd lb X Y t qx qy aw) (h7 : aw' 7 = aw 7) (h8 : aw' 8 = aw 8) (hf : fitB kd lb X Y = true) : p2 g kd lb X (Y + 1) t qx qy aw' := by
  obtain ⟨a1, a2, a3, a4, a5⟩ := h
  refine ⟨by omega, fun i hi => ?_, a3, fun x y hx hy hb hu => ?_, fun x y hx hy hn => by rw [h7]; exact a5 x y hx hy hn⟩
  · obtain ⟨b1, b2, b3, b4, b5, b6⟩ := a2 i hi
    exact ⟨b1, b2, by rw [h8]; exact b3, b4, by rw [h7]; exact b5, by omega⟩
  · by_cases e : x = X ∧ y = Y
    · obtain ⟨rfl, rfl⟩ := e
      rw [hf] at hu
      cases hu
    · exact a4 x y hx hy (by omega) hu
theorem p2_push {g : Nat} {kd lb : Nat → Nat} {X Y t : Nat} {qx qy : Nat → Nat} {aw : mA} (h : p2 g kd lb X Y t qx qy aw) (hg : g ≤ 200) (hX : X < g) (hY : Y < g) (hf : fitB kd lb X Y = false) : p2 g kd lb X (Y + 1) (t + 1) (va_up qx t X) (va_up qy t Y) (au (au aw 7 (400 * X + Y) (nI 0)) 8 t (nI (400 * X + Y))) := by
  obtain ⟨a1, a2, a3, a4, a5⟩ := h
  have q7 : ∀ p, au (au aw 7 (400 * X + Y) (nI 0)) 8 t (nI (400 * X + Y)) 7 p = if p = 400 * X + Y then nI 0 else aw 7 p := by
    intro p; simp [aur]
  have q8 : ∀ p, au (au aw 7 (400 * X + Y) (nI 0)) 8 t (nI (400 * X + Y)) 8 p = if p = t then nI (400 * X + Y) else aw 8 p := by
    intro p; simp [aur]
  generalize au (au aw 7 (400 * X + Y) (nI 0)) 8 t (nI (400 * X + Y)) = aw' at *
  refine ⟨by omega, fun i hi => ?_, fun i j hi hj e1 e2 => ?_, fun x y hx hy hb hu => ?_, fun x y hx hy hn => ?_⟩
  · simp only [upr]
    by_cases e : i = t
    · simp only [e, if_true]
      rw [q8, q7, if_pos rfl, if_pos rfl]
      exact ⟨hX, hY, by first | trivial | rfl, hf, by first | trivial | rfl, Or.inr ⟨by first | trivial | rfl, by omega⟩⟩
    · simp only [e, if_false]
      obtain ⟨b1, b2, b3, b4, b5, b6⟩ := a2 i (by omega)
      rw [q8, q7, if_neg e, if_neg (by omega)]
      exact ⟨b1, b2, b3, b4, b5, by omega⟩
  · simp only [upr] at e1 e2
    by_cases i1 : i = t <;> by_cases j1 : j = t
    · omega
    · simp only [i1, j1, if_true, if_false] at e1 e2
      have := (a2 j (by omega)).2.2.2.2.2
      omega
    · simp only [i1, j1, if_true, if_false] at e1 e2
      have := (a2 i (by omega)).2.2.2.2.2
      omega
    · simp only [i1, j1, if_false] at e1 e2
      exact a3 i j (by omega) (by omega) e1 e2
  · by_cases e : x = X ∧ y = Y
    · obtain ⟨rfl, rfl⟩ := e
      exact ⟨t, by omega, by simp only [upr, if_true], by simp only [upr, if_true]⟩
    · obtain ⟨i, c1, c2, c3⟩ := a4 x y hx hy (by omega) hu
      have it : ¬ i = t := by omega
      exact ⟨i, by omega, by simp only [upr, it, if_false]; exact c2, by simp only [upr, it, if_false]; exact c3⟩
  · have hne : ¬ 400 * x + y = 400 * X + Y := by
      intro h3
      refine hn t (by omega) ?_
      simp only [upr, if_true]
      omega
    rw [q7, if_neg hne]
    refine a5 x y hx hy (fun i hi h3 => ?_)
    have it : ¬ i = t := by omega
    exact hn i (by omega) (by simp only [upr, it, if_false]; exact h3)
theorem m_L79 {g : Nat} {kd lb : Nat → Nat} {pt : Nat → Nat → Nat} {iw : mI} (hg : g ≤ 200) (hG : Gr g kd lb pt) {k : Int32 → Int32 → Int32 → mI → mA → Option (Int32 × mI × mA)} {X : Nat} (hX : X < g) : ∀ (fu Y t n : Nat) (qx qy : Nat → Nat) (aw : mA), g < Y + fu → Y ≤ g → rG g kd lb pt iw aw → p2 g kd lb X Y t qx qy aw → adjI g kd lb pt X Y 0 n aw → n ≤ 8 * (X * g + Y) →
    ∃ (t2 n2 : Nat) (qx2 qy2 : Nat → Nat) (aw2 : mA), mX12_measure_L79 k fu (nI t) (nI n) (nI X) (nI Y) iw aw = k (nI t2) (nI n2) (nI (X + 1)) iw aw2 ∧ rG g kd lb pt iw aw2 ∧ p2 g kd lb X g t2 qx2 qy2 aw2 ∧ adjI g kd lb pt X g 0 n2 aw2 ∧ n2 ≤ 8 * (X * g + g) ∧ (∀ j, j < 7 ∨ 11 < j → aw2 j = aw j) := by
  have hsq : X * g + g ≤ 40000 := by
    have h1 : (X + 1) * g ≤ 200 * 200 := Nat.mul_le_mul (by omega) hg
    rw [Nat.succ_mul] at h1
    omega
  intro fu
  induction fu with
  | zero => intro Y t n qx qy aw h1 h2; omega
  | succ fu ih =>
    intro Y t n qx qy aw h1 h2 hr hp hA hn
    unfold mX12_measure_L79
    rw [hr.1]
    by_cases hY : Y = g
    · subst hY
      refine ⟨t, n, qx, qy, aw, ?_, hr, hp, hA, hn, fun _ _ => rfl⟩
      rw [if_pos (nI_le (Nat.le_refl Y) (by omega)), show (1 : Int32) = nI 1 from rfl, nadd]
    · have hYg : Y < g := by omega
      have e1 : (400 * nI X + nI Y : Int32) = nI (400 * X + Y) := by rw [show (400 : Int32) = nI 400 from rfl, nmul, nadd]
      have ht := hp.1
      rw [if_neg (nI_ge hYg (by omega)), r_fits hg hG hr hX hYg, obe]
      by_cases hf : fitB kd lb X Y = true
      · rw [if_pos hf, if_neg (by decide)]
        obtain ⟨n2, aw2, r1, r2, r3, r4⟩ := add_loop hg hG hX hYg hf (N0 := 8 * (X * g + Y)) (by omega) bigF 0 n aw (by unfold bigF; omega) (by omega) (by omega) hr hA
        have ha : mX12_addBack (nI X) (nI Y) (nI n) iw aw = some (nI n2, iw, aw2) := by
          unfold mX12_addBack
          generalize bigF = F at r1 ⊢
          rw [r_wanted hg hG hr hX hYg hf, obe]
          exact r1
        rw [ha, obe, show (1 : Int32) = nI 1 from rfl, nadd]
        have hr2 : rG g kd lb pt iw aw2 := ⟨hr.1, fun q hq => by rw [r3 4 (by decide) (by decide) (by decide), r3 5 (by decide) (by decide) (by decide), r3 6 (by decide) (by decide) (by decide)]; exact hr.2 q hq⟩
        obtain ⟨t3, n3, qx3, qy3, aw3, s1, s2, s3, s4, s5, s6⟩ := ih (Y + 1) t n2 qx qy aw2 (by omega) (by omega) hr2 (p2_same hp (r3 7 (by decide) (by decide) (by decide)) (r3 8 (by decide) (by decide) (by decide)) hf) (adj_row r4) (by omega)
        exact ⟨t3, n3, qx3, qy3, aw3, s1, s2, s3, s4, s5, fun j hj => (s6 j hj).trans (r3 j (by omega) (by omega) (by omega))⟩
      · have hff : fitB kd lb X Y = false := by
          cases hq : fitB kd lb X Y with
          | true => exact absurd hq hf
          | false => rfl
        rw [if_neg hf, if_pos rfl, e1, if_neg (nI_in (by omega) (by omega)), if_neg (nI_in (by omega) (by omega)), ncl (a := 400 * X + Y) (by omega), ncl (a := t) (by omega), show (1 : Int32) = nI 1 from rfl, show (0 : Int32) = nI 0 from rfl, nadd, nadd]
        have hp2 := p2_push hp hg hX hYg hff
        have hr2 : rG g kd lb pt iw (au (au aw 7 (400 * X + Y) (nI 0)) 8 t (nI (400 * X + Y))) := ⟨hr.1, hr.2⟩
        have hA2 : adjI g kd lb pt X (Y + 1) 0 n (au (au aw 7 (400 * X + Y) (nI 0)) 8 t (nI (400 * X + Y))) := adj_same (adj_unfit hA hff) (fun p => by simp [aur]) (fun p => by simp [aur]) (fun p => by simp [aur])
        obtain ⟨t3, n3, qx3, qy3, aw3, s1, s2, s3, s4, s5, s6⟩ := ih (Y + 1) (t + 1) n _ _ _ (by omega) (by omega) hr2 hp2 hA2 (by omega)
        refine ⟨t3, n3, qx3, qy3, aw3, s1, s2, s3, s4, s5, fun j hj => ?_⟩
        rw [s6 j hj]
        unfold au
        rw [va_up_ne _ _ (by omega), va_up_ne _ _ (by omega)]
theorem m_L68 {g : Nat} {kd lb : Nat → Nat} {pt : Nat → Nat → Nat} {iw : mI} (hg : g ≤ 200) (hG : Gr g kd lb pt) : ∀ (fu X t n : Nat) (qx qy : Nat → Nat) (aw : mA), g < X + fu → X ≤ g → rG g kd lb pt iw aw → p2 g kd lb X 0 t qx qy aw → adjI g kd lb pt X 0 0 n aw → n ≤ 8 * (X * g) →
    ∃ (t2 n2 : Nat) (qx2 qy2 : Nat → Nat) (aw2 : mA), mX12_measure_L68 fu (nI t) (nI n) (nI X) iw aw = mX12_measure_L153 bigF (nI t2) 0 iw aw2 ∧ rG g kd lb pt iw aw2 ∧ p2 g kd lb g 0 t2 qx2 qy2 aw2 ∧ adjI g kd lb pt g 0 0 n2 aw2 ∧ n2 ≤ 320000 ∧ (∀ j, j < 7 ∨ 11 < j → aw2 j = aw j) := by
  intro fu
  induction fu with
  | zero => intro X t n qx qy aw h1 h2; omega
  | succ fu ih =>
    intro X t n qx qy aw h1 h2 hr hp hA hn
    unfold mX12_measure_L68
    rw [hr.1]
    by_cases hX : X = g
    · subst hX
      have hsq : X * X ≤ 200 * 200 := Nat.mul_le_mul hg hg
      refine ⟨t, n, qx, qy, aw, ?_, hr, hp, hA, by omega, fun _ _ => rfl⟩
      rw [if_pos (nI_le (Nat.le_refl X) (by omega))]
    · rw [if_neg (nI_ge (by omega) (by omega))]
      obtain ⟨t2, n2, qx2, qy2, aw2, r1, r2, r3, r4, r5, r6⟩ := m_L79 hg hG (k := mX12_measure_L68 fu) (X := X) (by omega) bigF 0 t n qx qy aw (by unfold bigF; omega) (by omega) hr hp hA (by omega)
      have hp3 : p2 g kd lb (X + 1) 0 t2 qx2 qy2 aw2 := by
        obtain ⟨a1, a2, a3, a4, a5⟩ := r3
        refine ⟨by have e : (X + 1) * g = X * g + g := Nat.succ_mul X g; omega, fun i hi => ?_, a3, fun x y hx hy hb hu => a4 x y hx hy (by omega) hu, a5⟩
        obtain ⟨b1, b2, b3, b4, b5, b6⟩ := a2 i hi
        exact ⟨b1, b2, b3, b4, b5, by omega⟩
      obtain ⟨t3, n3, qx3, qy3, aw3, s1, s2, s3, s4, s5, s6⟩ := ih (X + 1) t2 n2 qx2 qy2 aw2 (by omega) (by omega) r2 hp3 (adj_next r4) (by have e : (X + 1) * g = X * g + g := Nat.succ_mul X g; omega)
      refine ⟨t3, n3, qx3, qy3, aw3, ?_, s2, s3, s4, s5, fun j hj => (s6 j hj).trans (r6 j hj)⟩
      rw [← s1]
      exact r1
