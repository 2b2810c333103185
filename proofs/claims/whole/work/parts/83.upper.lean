theorem jsim_up {f : Nat} {kd lb : Nat → Nat} {pt : Nat → Nat → Nat} (hG : Gr f kd lb pt) {a b r : Nat} (ha : a < f) (hb : b < f) (h : jsim kd 0 a b = some r) : (blw kd lb pt a r ∧ blw kd lb pt b r) ∧ r < f := by
  have n1 : ∀ x y, x < f → kd x = 1 → blw kd lb pt x y := fun x y hx h => blw_leaf (fitI.mpr (Or.inl h)) (fun l hw => noBit hG hx (by omega) l (wlI.mp hw).1)
  have n0 : ∀ x y, y < f → kd y = 0 → blw kd lb pt x y := fun x y hy h => blw_leaf (fitI.mpr (Or.inr (Or.inl h))) (fun l hw => noBit hG hy (by omega) l (wlI.mp hw).2)
  unfold jsim at h
  by_cases e1 : a = b
  · rw [if_pos e1] at h
    cases h
    subst e1
    exact ⟨⟨blw_refl _, blw_refl _⟩, ha⟩
  rw [if_neg e1] at h
  by_cases e2 : kd a = 1 - 0
  · rw [if_pos e2] at h
    cases h
    exact ⟨⟨n1 _ _ ha e2, blw_refl _⟩, hb⟩
  rw [if_neg e2] at h
  by_cases e3 : kd b = 1 - 0
  · rw [if_pos e3] at h
    cases h
    exact ⟨⟨blw_refl _, n1 _ _ hb e3⟩, ha⟩
  rw [if_neg e3] at h
  by_cases e4 : kd a = 0
  · rw [if_pos e4] at h
    cases h
    exact ⟨⟨blw_refl _, n0 _ _ ha e4⟩, ha⟩
  rw [if_neg e4] at h
  by_cases e5 : kd b = 0
  · rw [if_pos e5] at h
    cases h
    exact ⟨⟨n0 _ _ hb e5, blw_refl _⟩, hb⟩
  rw [if_neg e5] at h
  by_cases e6 : kd a = kd b ∧ (kd a = 2 ∨ kd a = 3)
  · rw [if_pos e6] at h
    cases h
    exact ⟨⟨blw_refl _, blw_leaf (fitI.mpr (Or.inr (Or.inr ⟨e6.1.symm, fun h => by omega, fun h => by omega⟩))) (fun l hw => noBit hG ha (by omega) l (wlI.mp hw).2)⟩, ha⟩
  · rw [if_neg e6] at h
    cases h
theorem jsim_dn {f : Nat} {kd lb : Nat → Nat} {pt : Nat → Nat → Nat} (hG : Gr f kd lb pt) {a b r : Nat} (ha : a < f) (hb : b < f) (h : jsim kd 1 a b = some r) : (blw kd lb pt r a ∧ blw kd lb pt r b) ∧ r < f := by
  have n1 : ∀ x y, x < f → kd x = 1 → blw kd lb pt x y := fun x y hx h => blw_leaf (fitI.mpr (Or.inl h)) (fun l hw => noBit hG hx (by omega) l (wlI.mp hw).1)
  have n0 : ∀ x y, y < f → kd y = 0 → blw kd lb pt x y := fun x y hy h => blw_leaf (fitI.mpr (Or.inr (Or.inl h))) (fun l hw => noBit hG hy (by omega) l (wlI.mp hw).2)
  unfold jsim at h
  by_cases e1 : a = b
  · rw [if_pos e1] at h
    cases h
    subst e1
    exact ⟨⟨blw_refl _, blw_refl _⟩, ha⟩
  rw [if_neg e1] at h
  by_cases e2 : kd a = 1 - 1
  · rw [if_pos e2] at h
    cases h
    exact ⟨⟨n0 _ _ ha e2, blw_refl _⟩, hb⟩
  rw [if_neg e2] at h
  by_cases e3 : kd b = 1 - 1
  · rw [if_pos e3] at h
    cases h
    exact ⟨⟨blw_refl _, n0 _ _ hb e3⟩, ha⟩
  rw [if_neg e3] at h
  by_cases e4 : kd a = 1
  · rw [if_pos e4] at h
    cases h
    exact ⟨⟨blw_refl _, n1 _ _ ha e4⟩, ha⟩
  rw [if_neg e4] at h
  by_cases e5 : kd b = 1
  · rw [if_pos e5] at h
    cases h
    exact ⟨⟨n1 _ _ hb e5, blw_refl _⟩, hb⟩
  rw [if_neg e5] at h
  by_cases e6 : kd a = kd b ∧ (kd a = 2 ∨ kd a = 3)
  · rw [if_pos e6] at h
    cases h
    exact ⟨⟨blw_refl _, blw_leaf (fitI.mpr (Or.inr (Or.inr ⟨e6.1, fun h => by omega, fun h => by omega⟩))) (fun l hw => noBit hG ha (by omega) l (wlI.mp hw).1)⟩, ha⟩
  · rw [if_neg e6] at h
    cases h
theorem jsim_no {kd : Nat → Nat} {h a b : Nat} (hh : h < 2) (hn : jsim kd h a b = none) : kd a ≠ 0 ∧ kd a ≠ 1 ∧ kd b ≠ 0 ∧ kd b ≠ 1 ∧ ¬ (kd a = kd b ∧ (kd a = 2 ∨ kd a = 3)) := by
  unfold jsim at hn
  by_cases e1 : a = b
  · rw [if_pos e1] at hn; cases hn
  rw [if_neg e1] at hn
  by_cases e2 : kd a = 1 - h
  · rw [if_pos e2] at hn; cases hn
  rw [if_neg e2] at hn
  by_cases e3 : kd b = 1 - h
  · rw [if_pos e3] at hn; cases hn
  rw [if_neg e3] at hn
  by_cases e4 : kd a = h
  · rw [if_pos e4] at hn; cases hn
  rw [if_neg e4] at hn
  by_cases e5 : kd b = h
  · rw [if_pos e5] at hn; cases hn
  rw [if_neg e5] at hn
  by_cases e6 : kd a = kd b ∧ (kd a = 2 ∨ kd a = 3)
  · rw [if_pos e6] at hn; cases hn
  · exact ⟨by omega, by omega, by omega, by omega, e6⟩
/-- two are below what they are united to -/
theorem upper {f n : Nat} {kd lb : Nat → Nat} {pt : Nat → Nat → Nat} {th ta tb P : Nat → Nat} {rs : Nat → Nat → Nat} (hGr : Gr f kd lb pt) (hG : jG f n kd lb pt th ta tb P rs []) (hGn : Gr n (kdJ f kd th ta tb) (lbJ f kd lb th ta tb) (ptJ f lb pt ta tb rs)) {a b r : Nat} (ha : a < f) (hb : b < f) (hr : jrs f n kd th ta tb 0 a b r) : blw (kdJ f kd th ta tb) (lbJ f kd lb th ta tb) (ptJ f lb pt ta tb rs) a r ∧ blw (kdJ f kd th ta tb) (lbJ f kd lb th ta tb) (ptJ f lb pt ta tb rs) b r := by
  have hfn := hG.1.1
  have old : ∀ k, k < f → kdJ f kd th ta tb k = kd k ∧ lbJ f kd lb th ta tb k = lb k ∧ ∀ l, ptJ f lb pt ta tb rs k l = pt k l := fun k hk => by
    unfold kdJ lbJ ptJ
    simp only [if_pos hk]
    exact ⟨trivial, trivial, fun _ => trivial⟩
  have new : ∀ k, f ≤ k → kdJ f kd th ta tb k = jkind kd (th k) (ta k) (tb k) ∧ lbJ f kd lb th ta tb k = jlab kd lb (th k) (ta k) (tb k) ∧ ∀ l, ptJ f lb pt ta tb rs k l = jtgt lb pt ta tb rs k l := fun k hk => by
    unfold kdJ lbJ ptJ
    simp only [if_neg (show ¬ k < f by omega)]
    exact ⟨trivial, trivial, fun _ => trivial⟩
  -- the relation
  have key : ∀ (v : List Nat) (x y : Nat), ((x < f ∧ y < f ∧ blw kd lb pt x y) ∨ (∃ a b r, a < f ∧ b < f ∧ jrs f n kd th ta tb 0 a b r ∧ (x = a ∨ x = b) ∧ y = r) ∨ (∃ a b r, a < f ∧ b < f ∧ jrs f n kd th ta tb 1 a b r ∧ x = r ∧ (y = a ∨ y = b))) → ¬ isBad (kdJ f kd th ta tb) (lbJ f kd lb th ta tb) (ptJ f lb pt ta tb rs) x y v := by
    refine blw_co ?_
    have oldcase : ∀ x y, x < f → y < f → blw kd lb pt x y → fitB (kdJ f kd th ta tb) (lbJ f kd lb th ta tb) x y = true ∧ ∀ l, l < 8 → wl (lbJ f kd lb th ta tb) x y l = true → (((nxA (kdJ f kd th ta tb) (ptJ f lb pt ta tb rs) x y l) < f ∧ (nxB (kdJ f kd th ta tb) (ptJ f lb pt ta tb rs) x y l) < f ∧ blw kd lb pt (nxA (kdJ f kd th ta tb) (ptJ f lb pt ta tb rs) x y l) (nxB (kdJ f kd th ta tb) (ptJ f lb pt ta tb rs) x y l)) ∨ (∃ a b r, a < f ∧ b < f ∧ jrs f n kd th ta tb 0 a b r ∧ ((nxA (kdJ f kd th ta tb) (ptJ f lb pt ta tb rs) x y l) = a ∨ (nxA (kdJ f kd th ta tb) (ptJ f lb pt ta tb rs) x y l) = b) ∧ (nxB (kdJ f kd th ta tb) (ptJ f lb pt ta tb rs) x y l) = r) ∨ (∃ a b r, a < f ∧ b < f ∧ jrs f n kd th ta tb 1 a b r ∧ (nxA (kdJ f kd th ta tb) (ptJ f lb pt ta tb rs) x y l) = r ∧ ((nxB (kdJ f kd th ta tb) (ptJ f lb pt ta tb rs) x y l) = a ∨ (nxB (kdJ f kd th ta tb) (ptJ f lb pt ta tb rs) x y l) = b))) := by
      intro x y hx hy h
      obtain ⟨a1, a2, a3⟩ := old x hx
      obtain ⟨b1, b2, b3⟩ := old y hy
      refine ⟨?_, fun l hl hw => Or.inl ?_⟩
      · rw [fitI, a1, a2, b1, b2]
        exact fitI.mp (blw_fit h)
      · have hw2 : wl lb x y l = true := by
          rw [wlI, a2, b2] at hw
          exact wlI.mpr hw
        have n1 := blw_next h hl hw2
        have pa := (hGr x hx).2.2.2.2 l hl (wlI.mp hw2).1
        have pb := (hGr y hy).2.2.2.2 l hl (wlI.mp hw2).2
        unfold nxA nxB at n1 ⊢
        rw [a1, a3, b3]
        by_cases e : kd x = 4 ∧ l = 0
        · rw [if_pos e, if_pos e] at n1 ⊢
          exact ⟨pb, pa, n1⟩
        · rw [if_neg e, if_neg e] at n1 ⊢
          exact ⟨pa, pb, n1⟩
    rintro x y (⟨hx, hy, h⟩ | ⟨a, b, r, ha, hb, hj, hxa, rfl⟩ | ⟨a, b, r, ha, hb, hj, rfl, hya⟩)
    · exact oldcase x y hx hy h
    · rcases hj with hj | ⟨j1, j2, j3, j4, j5⟩
      · obtain ⟨⟨u1, u2⟩, u3⟩ := jsim_up hGr ha hb hj
        rcases hxa with rfl | rfl
        · exact oldcase _ _ ha u3 u1
        · exact oldcase _ _ hb u3 u2
      · obtain ⟨m1', m2', m3', m4', m5', m6'⟩ := hG.2.1 y j1 j2
        have hP : P y = 8 := hG.2.2.2.2.2 y j1 j2 (fun h => (by cases h))
        rw [j3, j4, j5] at m4' m6'
        obtain ⟨s1, s2, s3, s4, s5⟩ := jsim_no (by omega) m4'
        obtain ⟨c1, c2, c3⟩ := new y j1
        rw [j3, j4, j5] at c1 c2
        have ka := (hGr a ha)
        have kb := (hGr b hb)
        have hxf : x < f := by rcases hxa with rfl | rfl <;> assumption
        obtain ⟨o1, o2, o3⟩ := old x hxf
        by_cases ek : kd a = kd b
        · have hjk : jkind kd 0 a b = kd a := by unfold jkind; rw [if_pos ek]
          rw [hjk] at c1
          have hkx : kd x = kd a := by rcases hxa with rfl | rfl <;> omega
          have hK : kd a = 4 ∨ kd a = 5 ∨ kd a = 6 := by omega
          have hlab : jlab kd lb 0 a b = if kd a = 4 then 3 else if kd a = 5 then lb a &&& lb b else lb a ||| lb b := by
            unfold jlab
            rw [hjk, if_neg (by omega)]
            rcases hK with e | e | e <;> simp [e]
          have part : ∀ l, l < 8 → jboth lb a b l = true → (jlab kd lb 0 a b).testBit l = true → ptJ f lb pt ta tb rs y l = rs y l ∧ jrs f n kd th ta tb (jsub kd 0 a l) (pt a l) (pt b l) (rs y l) := fun l hl hbo hbl => by
            refine ⟨?_, m6' l hl (by omega) hbl hbo⟩
            rw [c3]
            unfold jtgt
            rw [j4, j5, if_pos hbo]
          refine ⟨?_, fun l hl hw => ?_⟩
          · rw [fitI, o1, c1, o2, c2, hkx, hlab]
            refine Or.inr (Or.inr ⟨rfl, fun e l hl => ?_, fun e l hl => ?_⟩)
            · rw [if_neg (by omega), if_pos e, Nat.testBit_and] at hl
              obtain ⟨q1, q2⟩ := Bool.and_eq_true_iff.mp hl
              rcases hxa with rfl | rfl
              · exact q1
              · exact q2
            · rw [if_neg (by omega), if_neg (by omega), Nat.testBit_or, Bool.or_eq_true_iff]
              rcases hxa with rfl | rfl
              · exact Or.inl hl
              · exact Or.inr hl
          · rw [wlI, o2, c2] at hw
            obtain ⟨w1, w2⟩ := hw
            have w2' := w2
            rw [hlab] at w2'
            unfold nxA nxB
            rw [o1, hkx, o3]
            by_cases e4 : kd a = 4
            · rw [if_pos e4] at w2'
              have hbo : jboth lb a b l = true := by
                unfold jboth
                rw [ka.2.2.2.1 e4, kb.2.2.2.1 (by omega), w2']
                rfl
              obtain ⟨q1, q2⟩ := part l hl hbo w2
              have pa := ka.2.2.2.2 l hl (Bool.and_eq_true_iff.mp hbo).1
              have pb := kb.2.2.2.2 l hl (Bool.and_eq_true_iff.mp hbo).2
              unfold jsub at q2
              by_cases e0 : l = 0
              · rw [if_pos ⟨e4, e0⟩, if_pos ⟨e4, e0⟩, q1]
                rw [if_pos ⟨e4, e0⟩] at q2
                refine Or.inr (Or.inr ⟨_, _, _, pa, pb, q2, rfl, ?_⟩)
                rcases hxa with rfl | rfl
                · exact Or.inl rfl
                · exact Or.inr rfl
              · rw [if_neg (fun h => e0 h.2), if_neg (fun h => e0 h.2), q1]
                rw [if_neg (fun h => e0 h.2)] at q2
                refine Or.inr (Or.inl ⟨_, _, _, pa, pb, q2, ?_, rfl⟩)
                rcases hxa with rfl | rfl
                · exact Or.inl rfl
                · exact Or.inr rfl
            · rw [if_neg (fun h => e4 h.1), if_neg (fun h => e4 h.1)]
              by_cases hbo : jboth lb a b l = true
              · obtain ⟨q1, q2⟩ := part l hl hbo w2
                have pa := ka.2.2.2.2 l hl (Bool.and_eq_true_iff.mp hbo).1
                have pb := kb.2.2.2.2 l hl (Bool.and_eq_true_iff.mp hbo).2
                unfold jsub at q2
                rw [if_neg (fun h => e4 h.1)] at q2
                rw [q1]
                refine Or.inr (Or.inl ⟨_, _, _, pa, pb, q2, ?_, rfl⟩)
                rcases hxa with rfl | rfl
                · exact Or.inl rfl
                · exact Or.inr rfl
              · have e6 : kd a = 6 := by
                  rcases hK with e | e | e
                  · exact absurd e e4
                  · rw [if_neg e4, if_pos e, Nat.testBit_and] at w2'
                    exact absurd w2' hbo
                  · exact e
                have hpt : ptJ f lb pt ta tb rs y l = pt x l := by
                  rw [c3]
                  unfold jtgt
                  rw [j4, j5, if_neg hbo]
                  rcases hxa with rfl | rfl
                  · rw [if_pos w1]
                  · rw [if_neg]
                    intro hh
                    apply hbo
                    unfold jboth
                    rw [hh, w1]
                    rfl
                have px := (hGr x hxf).2.2.2.2 l hl w1
                rw [hpt]
                exact Or.inl ⟨px, px, blw_refl _⟩
        · have hjk : jkind kd 0 a b = 0 := by unfold jkind; rw [if_neg ek]
          rw [hjk] at c1
          have hlab : jlab kd lb 0 a b = 0 := by unfold jlab; rw [hjk, if_pos (by omega)]
          rw [hlab] at c2
          refine ⟨fitI.mpr (Or.inr (Or.inl c1)), fun l hl hw => ?_⟩
          have := (wlI.mp hw).2
          rw [c2, Nat.zero_testBit] at this
          cases this
    · rcases hj with hj | ⟨j1, j2, j3, j4, j5⟩
      · obtain ⟨⟨u1, u2⟩, u3⟩ := jsim_dn hGr ha hb hj
        rcases hya with rfl | rfl
        · exact oldcase _ _ u3 ha u1
        · exact oldcase _ _ u3 hb u2
      · obtain ⟨m1', m2', m3', m4', m5', m6'⟩ := hG.2.1 x j1 j2
        have hP : P x = 8 := hG.2.2.2.2.2 x j1 j2 (fun h => (by cases h))
        rw [j3, j4, j5] at m4' m6'
        obtain ⟨s1, s2, s3, s4, s5⟩ := jsim_no (by omega) m4'
        obtain ⟨c1, c2, c3⟩ := new x j1
        rw [j3, j4, j5] at c1 c2
        have ka := (hGr a ha)
        have kb := (hGr b hb)
        have hyf : y < f := by rcases hya with rfl | rfl <;> assumption
        obtain ⟨o1, o2, o3⟩ := old y hyf
        by_cases ek : kd a = kd b
        · have hjk : jkind kd 1 a b = kd a := by unfold jkind; rw [if_pos ek]
          rw [hjk] at c1
          have hky : kd y = kd a := by rcases hya with rfl | rfl <;> omega
          have hK : kd a = 4 ∨ kd a = 5 ∨ kd a = 6 := by omega
          have hlab : jlab kd lb 1 a b = if kd a = 4 then 3 else if kd a = 6 then lb a &&& lb b else lb a ||| lb b := by
            unfold jlab
            rw [hjk, if_neg (by omega)]
            rcases hK with e | e | e <;> simp [e]
          have part : ∀ l, l < 8 → jboth lb a b l = true → (jlab kd lb 1 a b).testBit l = true → ptJ f lb pt ta tb rs x l = rs x l ∧ jrs f n kd th ta tb (jsub kd 1 a l) (pt a l) (pt b l) (rs x l) := fun l hl hbo hbl => by
            refine ⟨?_, m6' l hl (by omega) hbl hbo⟩
            rw [c3]
            unfold jtgt
            rw [j4, j5, if_pos hbo]
          refine ⟨?_, fun l hl hw => ?_⟩
          · rw [fitI, o1, c1, o2, c2, hky, hlab]
            refine Or.inr (Or.inr ⟨rfl, fun e l hl => ?_, fun e l hl => ?_⟩)
            · rw [if_neg (by omega), if_neg (by omega), Nat.testBit_or, Bool.or_eq_true_iff]
              rcases hya with rfl | rfl
              · exact Or.inl hl
              · exact Or.inr hl
            · rw [if_neg (by omega), if_pos e, Nat.testBit_and] at hl
              obtain ⟨q1, q2⟩ := Bool.and_eq_true_iff.mp hl
              rcases hya with rfl | rfl
              · exact q1
              · exact q2
          · rw [wlI, o2, c2] at hw
            obtain ⟨w2, w1⟩ := hw
            have w2' := w2
            rw [hlab] at w2'
            unfold nxA nxB
            rw [c1, o3]
            by_cases e4 : kd a = 4
            · rw [if_pos e4] at w2'
              have hbo : jboth lb a b l = true := by
                unfold jboth
                rw [ka.2.2.2.1 e4, kb.2.2.2.1 (by omega), w2']
                rfl
              obtain ⟨q1, q2⟩ := part l hl hbo w2
              have pa := ka.2.2.2.2 l hl (Bool.and_eq_true_iff.mp hbo).1
              have pb := kb.2.2.2.2 l hl (Bool.and_eq_true_iff.mp hbo).2
              unfold jsub at q2
              by_cases e0 : l = 0
              · rw [if_pos ⟨e4, e0⟩, if_pos ⟨e4, e0⟩, q1]
                rw [if_pos ⟨e4, e0⟩] at q2
                refine Or.inr (Or.inl ⟨_, _, _, pa, pb, q2, ?_, rfl⟩)
                rcases hya with rfl | rfl
                · exact Or.inl rfl
                · exact Or.inr rfl
              · rw [if_neg (fun h => e0 h.2), if_neg (fun h => e0 h.2), q1]
                rw [if_neg (fun h => e0 h.2)] at q2
                refine Or.inr (Or.inr ⟨_, _, _, pa, pb, q2, rfl, ?_⟩)
                rcases hya with rfl | rfl
                · exact Or.inl rfl
                · exact Or.inr rfl
            · rw [if_neg (fun h => e4 h.1), if_neg (fun h => e4 h.1)]
              by_cases hbo : jboth lb a b l = true
              · obtain ⟨q1, q2⟩ := part l hl hbo w2
                have pa := ka.2.2.2.2 l hl (Bool.and_eq_true_iff.mp hbo).1
                have pb := kb.2.2.2.2 l hl (Bool.and_eq_true_iff.mp hbo).2
                unfold jsub at q2
                rw [if_neg (fun h => e4 h.1)] at q2
                rw [q1]
                refine Or.inr (Or.inr ⟨_, _, _, pa, pb, q2, rfl, ?_⟩)
                rcases hya with rfl | rfl
                · exact Or.inl rfl
                · exact Or.inr rfl
              · have e5 : kd a = 5 := by
                  rcases hK with e | e | e
                  · exact absurd e e4
                  · exact e
                  · rw [if_neg e4, if_pos e, Nat.testBit_and] at w2'
                    exact absurd w2' hbo
                have hpt : ptJ f lb pt ta tb rs x l = pt y l := by
                  rw [c3]
                  unfold jtgt
                  rw [j4, j5, if_neg hbo]
                  rcases hya with rfl | rfl
                  · rw [if_pos w1]
                  · rw [if_neg]
                    intro hh
                    apply hbo
                    unfold jboth
                    rw [hh, w1]
                    rfl
                have px := (hGr y hyf).2.2.2.2 l hl w1
                rw [hpt]
                exact Or.inl ⟨px, px, blw_refl _⟩
        · have hjk : jkind kd 1 a b = 1 := by unfold jkind; rw [if_neg ek]
          rw [hjk] at c1
          have hlab : jlab kd lb 1 a b = 0 := by unfold jlab; rw [hjk, if_pos (by omega)]
          rw [hlab] at c2
          refine ⟨fitI.mpr (Or.inl c1), fun l hl hw => ?_⟩
          have := (wlI.mp hw).1
          rw [c2, Nat.zero_testBit] at this
          cases this
  exact ⟨fun v => key v a r (Or.inr (Or.inl ⟨a, b, r, ha, hb, hr, Or.inl rfl, rfl⟩)), fun v => key v b r (Or.inr (Or.inl ⟨a, b, r, ha, hb, hr, Or.inr rfl, rfl⟩))⟩
