theorem m_L153 {g : Nat} {kd lb : Nat → Nat} {pt : Nat → Nat → Nat} {iw : mI} (hg : g ≤ 200) {n : Nat} {aw0 : mA} (hn : n ≤ 320000) (hA : adjI g kd lb pt g 0 0 n aw0) : ∀ (fu h t : Nat) (qx qy fd : Nat → Nat) (aw : mA), 40000 < h + fu → h ≤ t → p3 g kd lb pt t h qx qy fd aw → (∀ j, j ≠ 7 → j ≠ 8 → aw j = aw0 j) →
    ∃ (t2 : Nat) (qx2 qy2 fd2 : Nat → Nat) (aw2 : mA), mX12_measure_L153 fu (nI t) (nI h) iw aw = some (0, iw, aw2) ∧ p3 g kd lb pt t2 t2 qx2 qy2 fd2 aw2 ∧ (∀ j, j ≠ 7 → j ≠ 8 → aw2 j = aw0 j) := by
  intro fu
  induction fu with
  | zero =>
    intro h t qx qy fd aw h1 h2 hp hk
    have := p3_cap hg (fun i hi => ⟨(hp.1 i hi).1, (hp.1 i hi).2.1⟩) hp.2.1
    omega
  | succ fu ih =>
    intro h t qx qy fd aw h1 h2 hp hk
    have hcap := p3_cap hg (fun i hi => ⟨(hp.1 i hi).1, (hp.1 i hi).2.1⟩) hp.2.1
    unfold mX12_measure_L153
    by_cases hh : h = t
    · subst hh
      refine ⟨h, qx, qy, fd, aw, ?_, hp, hk⟩
      rw [if_pos (nI_le (Nat.le_refl h) (by omega))]
    · have hlt : h < t := by omega
      obtain ⟨b1, b2, b3, b4, b5, b6⟩ := hp.1 h hlt
      rw [if_neg (nI_ge hlt (by omega)), if_neg (nI_in (by omega) (by omega)), ncl (a := h) (by omega), b3, if_neg (nI_in (by omega) (by omega)), ncl (a := 400 * qx h + qy h) (by omega)]
      obtain ⟨bl, l1, l2⟩ := hA (qx h) (qy h) b1 b2
      have hlk : lk aw n bl (aw 9 (400 * qx h + qy h)) := by
        rw [hk 9 (by decide) (by decide)]
        exact lk_mono bl n n _ (Nat.le_refl n) (fun z _ => ⟨by rw [hk 11 (by decide) (by decide)], by rw [hk 10 (by decide) (by decide)]⟩) l1
      have hlen := lk_len bl n _ l1
      obtain ⟨t2, qx2, qy2, fd2, aw2, r1, r2, r3, r4, r5, r6⟩ := m_L175 (iw := iw) hg (k := mX12_measure_L153 fu) (h := h) (aw0 := aw0) hn bl bigF t qx qy fd _ aw (by unfold bigF; omega) hlt hp hlk (fun c hc => by
        obtain ⟨x, y, l, -, q⟩ := (l2 c).mp hc
        exact ⟨x, y, l, q⟩) hk
      obtain ⟨d1, d2, d3⟩ := r3 h hlt
      have hp2 : p3 g kd lb pt t2 (h + 1) qx2 qy2 fd2 aw2 := by
        obtain ⟨a1, a2, a3, a4, a5, a6, a7⟩ := r4
        refine ⟨a1, a2, a3, a4, a5, fun j hj hht => ?_, fun i x y l hi hit hx hy hl hf hw n1 n2 => ?_⟩
        · have e1 := a6 j hj (by omega)
          have e2 := a5 h (h + 1) (by omega) hht
          omega
        · by_cases e : i = h
          · subst e
            have hmem : (400 * x + y) ∈ bl := (l2 _).mpr ⟨x, y, l, Or.inl hx, rfl, hx, hy, hl, hf, hw, n1.trans d1, n2.trans d2⟩
            obtain ⟨j, j1, j2, j3⟩ := r6 _ hmem
            obtain ⟨k1, k2, -⟩ := a1 j j1
            exact ⟨j, j1, by omega, by omega, j3⟩
          · exact a7 i x y l (by omega) hit hx hy hl hf hw n1 n2
      obtain ⟨t3, qx3, qy3, fd3, aw3, s1, s2, s3⟩ := ih (h + 1) t2 qx2 qy2 fd2 aw2 (by omega) (by omega) hp2 r5
      exact ⟨t3, qx3, qy3, fd3, aw3, by rw [← s1]; exact r1, s2, s3⟩
/-- what the measure leaves: of each pair the least length of a bad word, or none -/
def farI (g : Nat) (kd lb : Nat → Nat) (pt : Nat → Nat → Nat) (aw : mA) : Prop := ∀ x y, x < g → y < g → ((∀ v, ¬ isBad kd lb pt x y v) ∧ aw 7 (400 * x + y) = m1) ∨ ∃ d, d < 40000 ∧ aw 7 (400 * x + y) = nI d ∧ (∃ v, isBad kd lb pt x y v ∧ v.length = d) ∧ ∀ v, isBad kd lb pt x y v → d ≤ v.length
theorem p3_far {g : Nat} {kd lb : Nat → Nat} {pt : Nat → Nat → Nat} {t : Nat} {qx qy fd : Nat → Nat} {aw : mA} (hg : g ≤ 200) (hG : Gr g kd lb pt) (hp : p3 g kd lb pt t t qx qy fd aw) : farI g kd lb pt aw := by
  obtain ⟨a1, a2, a3, a4, a5, a6, a7⟩ := hp
  have hcap := p3_cap hg (fun i hi => ⟨(a1 i hi).1, (a1 i hi).2.1⟩) a2
  have key : ∀ (v : List Nat) (x y : Nat), x < g → y < g → isBad kd lb pt x y v → ∃ i, i < t ∧ qx i = x ∧ qy i = y ∧ fd i ≤ v.length := by
    intro v
    induction v with
    | nil =>
      rintro x y hx hy ⟨a, b, ⟨rfl, rfl⟩, hf⟩
      obtain ⟨i, i1, i2, i3, i4⟩ := a4 a b hx hy hf
      exact ⟨i, i1, i2, i3, by omega⟩
    | cons l v ih =>
      rintro x y hx hy ⟨a, b, ⟨l1, l2, l3, l4⟩, hf⟩
      have hw := l3
      unfold wl at hw
      rw [Bool.and_eq_true] at hw
      have px := (hG x hx).2.2.2.2 l l2 hw.1
      have py := (hG y hy).2.2.2.2 l l2 hw.2
      obtain ⟨i, i1, i2, i3, i4⟩ := ih (nxA kd pt x y l) (nxB kd pt x y l) (by unfold nxA; split <;> omega) (by unfold nxB; split <;> omega) ⟨a, b, l4, hf⟩
      obtain ⟨j, j1, j2, j3, j4⟩ := a7 i x y l i1 i1 hx hy l2 l1 l3 i2.symm i3.symm
      exact ⟨j, j1, j2, j3, by simp; omega⟩
  intro x y hx hy
  by_cases hex : ∃ i, i < t ∧ qx i = x ∧ qy i = y
  · obtain ⟨i, i1, rfl, rfl⟩ := hex
    obtain ⟨b1, b2, b3, b4, b5, b6⟩ := a1 i i1
    refine Or.inr ⟨fd i, by omega, b4, b6, fun v hv => ?_⟩
    obtain ⟨j, j1, j2, j3, j4⟩ := key v _ _ b1 b2 hv
    rw [← a2 j i j1 i1 j2 j3]
    exact j4
  · refine Or.inl ⟨fun v hv => ?_, a3 x y hx hy (fun i hi q => hex ⟨i, hi, q⟩)⟩
    obtain ⟨i, i1, i2, i3, -⟩ := key v x y hx hy hv
    exact hex ⟨i, i1, i2, i3⟩
theorem r_measure {g : Nat} {kd lb : Nat → Nat} {pt : Nat → Nat → Nat} {iw : mI} {aw : mA} (hg : g ≤ 200) (hG : Gr g kd lb pt) (hr : rG g kd lb pt iw aw) : ∃ aw2, mX12_measure iw aw = some (0, iw, aw2) ∧ (∀ j, j < 7 ∨ 11 < j → aw2 j = aw j) ∧ farI g kd lb pt aw2 := by
  obtain ⟨aw1, s1, s2, s3, s4⟩ := m_L6 hg hr.1 bigF 0 aw (by unfold bigF; omega) (by omega)
  have hr1 : rG g kd lb pt iw aw1 := ⟨hr.1, fun q hq => by rw [s2 4 (by decide) (by decide), s2 5 (by decide) (by decide), s2 6 (by decide) (by decide)]; exact hr.2 q hq⟩
  have hp : p2 g kd lb 0 0 0 (fun _ => 0) (fun _ => 0) aw1 := ⟨by omega, fun i hi => absurd hi (Nat.not_lt_zero i), fun i j hi => absurd hi (Nat.not_lt_zero i), fun x y _ _ hb => by omega, fun x y hx hy _ => (s4 x y (by omega) hx hy).1⟩
  have hA : adjI g kd lb pt 0 0 0 0 aw1 := by
    intro a b ha hb
    refine ⟨[], (s4 a b (by omega) ha hb).2, fun c => ?_⟩
    constructor
    · intro h; cases h
    · rintro ⟨x, y, l, q, _⟩
      unfold bef at q
      omega
  obtain ⟨t2, n2, qx2, qy2, aw2, r1, r2, r3, r4, r5, r6⟩ := m_L68 hg hG bigF 0 0 0 _ _ aw1 (by unfold bigF; omega) (by omega) hr1 hp hA (by omega)
  have hp3 : p3 g kd lb pt t2 0 qx2 qy2 (fun _ => 0) aw2 := by
    obtain ⟨a1, a2, a3, a4, a5⟩ := r3
    refine ⟨fun i hi => ?_, a3, a5, fun x y hx hy hu => ?_, fun _ _ _ _ => Nat.le_refl 0, fun _ _ _ => Nat.zero_le _, fun i x y l hi => absurd hi (Nat.not_lt_zero i)⟩
    · obtain ⟨b1, b2, b3, b4, b5, b6⟩ := a2 i hi
      exact ⟨b1, b2, b3, b5, Nat.zero_le _, [], ⟨_, _, ⟨rfl, rfl⟩, b4⟩, rfl⟩
    · obtain ⟨i, i1, i2, i3⟩ := a4 x y hx hy (Or.inl hx) hu
      exact ⟨i, i1, i2, i3, rfl⟩
  obtain ⟨t3, qx3, qy3, fd3, aw3, u1, u2, u3⟩ := m_L153 (iw := iw) hg r5 r4 bigF 0 t2 qx2 qy2 _ aw2 (by unfold bigF; omega) (by omega) hp3 (fun _ _ _ => rfl)
  refine ⟨aw3, ?_, fun j hj => ?_, p3_far hg hG u2⟩
  · unfold mX12_measure
    generalize bigF = F at s1 r1 u1 ⊢
    rw [nz] at s1 r1 u1 ⊢
    rw [s1, r1, u1]
  · rw [u3 j (by omega) (by omega), r6 j hj, s2 j (by omega) (by omega)]
