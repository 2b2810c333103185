section
variable {g0 : Nat} {kd0 lb0 : Nat → Nat} {g : Nat} {kd lb : Nat → Nat} {pt : Nat → Nat → Nat} {m : Nat} {T : TT} {ty va : Nat → Nat} {k : Nat} {iv : mI} {ar : mA} {la : mL} {pA pB : mA} {iw : mI} {aw : mA}
theorem ty28 (h : kAll g0 kd0 lb0 g kd lb pt m T ty va k iv ar la pB iw aw) (e : tWd T k = 28) (b : Int32) : dOut g kd lb pt T ty va k iv ar pA pB iw aw (obc (mX2_typeOf (nI (tPl T k)) iv ar la pA pB) (fun r91 iv91 ar91 la91 pA91 pB91 => mX2_joinBranches (nI (tPl T k)) r91 iv91 ar91 la91 pA91 pB91)) (mX12_typeDone (nI k) b iw aw) := by
  obtain ⟨h1, h2, h3⟩ := hw_of (pA := pA) h e
  obtain ⟨⟨hA, hG0⟩, ⟨hcl, hre, hk⟩, ⟨hg, h24⟩, hkid, hsc, hbd⟩ := id h
  obtain ⟨F, hF, hFF⟩ : ∃ F, bigF = F + 2 ∧ 5000 < F := ⟨999998, rfl, by omega⟩
  have hn : tNk T k = 3 := (hA.2.2 k hk).1.1.2.2.2.2.2.1 e
  obtain ⟨t1, t2, t3⟩ := hkid 0 (by omega)
  obtain ⟨s1, s2, s3⟩ := hkid 1 (by omega)
  obtain ⟨u1, u2, u3⟩ := hkid 2 (by omega)
  have e0 : mX2_typeIn (nI (tPl T k)) 0 iv ar la pA pB = some (nI (ty (tIn T k 0)), iv, ar, la, pA, pB) := c_typeIn hA hcl hk (show 0 < tNk T k by omega) t2
  have e1 : mX2_typeIn (nI (tPl T k)) 1 iv ar la pA pB = some (nI (ty (tIn T k 1)), iv, ar, la, pA, pB) := c_typeIn hA hcl hk (show 1 < tNk T k by omega) s2
  have e2 : mX2_typeIn (nI (tPl T k)) 2 iv ar la pA pB = some (nI (ty (tIn T k 2)), iv, ar, la, pA, pB) := c_typeIn hA hcl hk (show 2 < tNk T k by omega) u2
  have r0 : mX12_typeInside (nI k) 0 iw aw = some (nI (ty (tIn T k 0)), iw, aw) := r_tin hA hre hk (show 0 < tNk T k by omega) t3
  have r1 : mX12_typeInside (nI k) 1 iw aw = some (nI (ty (tIn T k 1)), iw, aw) := r_tin hA hre hk (show 1 < tNk T k by omega) s3
  have r2 : mX12_typeInside (nI k) 2 iw aw = some (nI (ty (tIn T k 2)), iw, aw) := r_tin hA hre hk (show 2 < tNk T k by omega) u3
  have c0 : mX2_isOrNothing (nI (ty (tIn T k 0))) 3 iv ar la pA pB = _ := c_isOr (K := 3) hg.2.2.1.1 hg.1 t1 (hg.2.2.1.2 _ t1).1 (hg.2.1 _ t1).1 (by omega)
  have d0 : mX12_isKind (nI (ty (tIn T k 0))) 3 iw aw = _ := r_isKind (K := 3) hg.1 t1 (hg.2.2.2.1.2 _ t1).1 (hg.2.1 _ t1).1 (by omega)
  have hg200 := hg.1
  have ej : ∀ r : Int32, mX2_joinBranches (nI (tPl T k)) r iv ar la pA pB = mX2_joinBranches_L61 bigF (nI (tPl T k)) 3 r 2 iv ar la pA pB := by
    intro r
    unfold mX2_joinBranches
    rw [h1, obce, if_pos (show nI 28 = 28 from rfl)]
    unfold mX2_joinBranches_J20
    rw [if_pos (show nI 28 = 28 from rfl)]
  rw [tof28 h1, tdn28 h3 h2, e0, obce, c0, obce, r0, obe, d0, obe]
  by_cases q : kd (ty (tIn T k 0)) = 3 ∨ kd (ty (tIn T k 0)) = 1
  · rw [if_pos q, if_neg (show ¬ (1 : Int32) = 0 by decide), if_neg (show ¬ (1 : Int32) = 0 by decide), e1, obce, obce, ej, r1, obe, r2, obe]
    obtain ⟨rz, r, g2, kd2, lb2, pt2, iv2, ar2, iw2, aw2, j1, j2, j3, j4, j5, j6, j7, j8⟩ := uni_both (pA := pA) (pB := pB) hg h24 s1 u1
    have eL : mX2_joinBranches_L61 bigF (nI (tPl T k)) 3 (nI (ty (tIn T k 1))) 2 iv ar la pA pB = some (rz, iv2, ar2, la, pA, pB) := by
      rw [hF]
      conv => lhs; rw [mX2_joinBranches_L61]
      rw [if_neg (show ¬ (3 : Int32) ≤ 2 by decide), if_neg (nI_pos (by omega)), e2, obce, j1, obce]
      conv => lhs; rw [mX2_joinBranches_L61]
      rw [if_pos (show (3 : Int32) ≤ 2 + 1 by decide)]
    rw [eL, ob_id, j2]
    refine ⟨rz, r, g2, kd2, lb2, pt2, iv2, ar2, la, iw2, aw2, rfl, rfl, j3, j4, j5, j6, ?_⟩
    rcases j8 with ⟨t, k1, k2, k3, k4, k5, k6⟩ | ⟨k1, k2⟩
    · exact Or.inl ⟨t, k1, k2, k3, k4, j7, (by unfold tyR; refine ⟨?_, ?_, ?_, ?_, ?_, ?_, ?_, ?_, ?_, ?_, ?_⟩ <;> intro hq <;> first | (exfalso; omega) | exact (⟨k5, k6⟩))⟩
    · exact Or.inr (Or.inr ⟨k1, k2, j7⟩)
  · rw [if_neg q, if_pos rfl, if_pos rfl, obce, ej, r_mis hA.2.1 hre hk, obe]
    have eL : mX2_joinBranches_L61 bigF (nI (tPl T k)) 3 (-15) 2 iv ar la pA pB = some (m15, iv, ar, la, pA, pB) := by
      rw [hF]
      conv => lhs; rw [mX2_joinBranches_L61]
      rw [if_neg (show ¬ (3 : Int32) ≤ 2 by decide), if_pos (show (-15 : Int32) < 0 by decide)]
      rfl
    exact dOut_mis h (fun _ _ => rfl) hg.2.2.2.2 (fun _ _ => rfl) eL rfl
/-- one with the next, that with the third, and so on -/
theorem chain_both {E : Nat} (hA : tAll g0 kd0 lb0 m T) (hcl : tCl m T pB) (hk : k < m) (hE : E + 1 = tNk T k) (hw : tWd T k = 32) : ∀ (d i gc : Nat) (kdc lbc : Nat → Nat) (ptc : Nat → Nat → Nat) (acc : Nat) (iv : mI) (ar : mA) (iw : mI) (aw : mA) (n1 n2 : Nat), E - i ≤ d → i < 1000 → d + 1 < n1 → d + 1 < n2 → gAll gc kdc lbc ptc iv ar la iw aw → iw 24 = 0 → tRe m T aw → (∀ i, i < tNk T k → ty (tIn T k i) < gc ∧ ar 204 (tPl T (tIn T k i)) = nI (ty (tIn T k i)) ∧ aw 54 (tIn T k i) = nI (ty (tIn T k i))) → acc < gc → (∀ j, j < i → j < E → blw kdc lbc ptc (ty (tIn T k j)) acc) →
    ∃ (c r : Int32) (g2 : Nat) (kd2 lb2 : Nat → Nat) (pt2 : Nat → Nat → Nat) (iv2 : mI) (ar2 : mA) (iw2 : mI) (aw2 : mA), mX2_joinBranches_L61 n1 (nI (tPl T k)) (nI E) (nI acc) (nI i) iv ar la pA pB = some (c, iv2, ar2, la, pA, pB) ∧ mX12_typeTaken_L119 n2 (nI k) (nI acc) (nI i) iw aw = some (r, iw2, aw2) ∧ grow gc kdc lbc ptc g2 kd2 lb2 pt2 ∧ gAll g2 kd2 lb2 pt2 iv2 ar2 la iw2 aw2 ∧ fD iv ar iv2 ar2 ∧ fE iw aw iw2 aw2 ∧ iw2 2 = iw 2 ∧ ((∃ t, t < g2 ∧ c = nI t ∧ r = nI t ∧ iw2 24 = 0 ∧ ∀ j, j < E → blw kd2 lb2 pt2 (ty (tIn T k j)) t) ∨ (c = m3 ∧ iw2 24 = m3)) := by
  have h9 := hOK9 (hA.2.2 k hk).1.1
  have hk2 : k < 200 := Nat.lt_of_lt_of_le hk hA.2.1
  have hf1 := ((hA.2.2 k hk).1.1.2.2.2.2.2.2.2.2.2 hw).2.2
  rw [show tNk T k - 1 = E by omega] at hf1
  intro d
  induction d with
  | zero =>
    intro i gc kdc lbc ptc acc iv ar iw aw n1 n2 hd hi9 hn1 hn2 hG h24 hre hkid hacc hb
    obtain ⟨n1, rfl⟩ : ∃ x, n1 = x + 1 := ⟨n1 - 1, by omega⟩
    obtain ⟨n2, rfl⟩ : ∃ x, n2 = x + 1 := ⟨n2 - 1, by omega⟩
    refine ⟨nI acc, nI acc, gc, kdc, lbc, ptc, iv, ar, iw, aw, ?_, ?_, grow_r hG.1, hG, fD_r _ _, fE_r _ _, rfl, Or.inl ⟨acc, hacc, rfl, rfl, h24, fun j hj => hb j (by omega) hj⟩⟩
    · rw [mX2_joinBranches_L61]
      rw [if_pos (nI_le (show E ≤ i by omega) (by omega))]
    · rw [mX12_typeTaken_L119]
      rw [if_neg (by first | exact nI_in (by omega) (by omega) | exact nI_inn (by omega) (by omega)), ncl (by omega), (hre k hk).1.2.2.1, hf1, if_pos (nI_le (show E ≤ i by omega) (by omega))]
  | succ d ih =>
    intro i gc kdc lbc ptc acc iv ar iw aw n1 n2 hd hi9 hn1 hn2 hG h24 hre hkid hacc hb
    by_cases hiE : E ≤ i
    · exact ih i gc kdc lbc ptc acc iv ar iw aw n1 n2 (by omega) hi9 (by omega) (by omega) hG h24 hre hkid hacc hb
    obtain ⟨n1, rfl⟩ : ∃ x, n1 = x + 2 := ⟨n1 - 2, by omega⟩
    obtain ⟨n2, rfl⟩ : ∃ x, n2 = x + 2 := ⟨n2 - 2, by omega⟩
    obtain ⟨s1, s2, s3⟩ := hkid i (by omega)
    have hg200 := hG.1
    obtain ⟨rz, r, g2, kd2, lb2, pt2, iv2, ar2, iw2, aw2, j1, j2, j3, j4, j5, j6, j7, j8⟩ := uni_both (pA := pA) (pB := pB) hG h24 hacc s1
    have eC : mX2_joinBranches_L61 (n1 + 2) (nI (tPl T k)) (nI E) (nI acc) (nI i) iv ar la pA pB = mX2_joinBranches_L61 (n1 + 1) (nI (tPl T k)) (nI E) rz (nI (i + 1)) iv2 ar2 la pA pB := by
      conv => lhs; rw [mX2_joinBranches_L61]
      rw [if_neg (nI_ge (show i < E by omega) (by omega)), if_neg (nI_pos (by omega)), c_typeIn hA hcl hk (show i < tNk T k by omega) s2, obce, j1, obce, show nI i + 1 = nI (i + 1) from nadd _ 1]
    have eR : mX12_typeTaken_L119 (n2 + 2) (nI k) (nI acc) (nI i) iw aw = mX12_typeTaken_L119 (n2 + 1) (nI k) r (nI (i + 1)) iw2 aw2 := by
      conv => lhs; rw [mX12_typeTaken_L119]
      rw [if_neg (by first | exact nI_in (by omega) (by omega) | exact nI_inn (by omega) (by omega)), ncl (by omega), (hre k hk).1.2.2.1, hf1, if_neg (nI_ge (show i < E by omega) (by omega)), if_pos h24, r_tin hA hre hk (show i < tNk T k by omega) s3, obe, j2, obe, show nI i + 1 = nI (i + 1) from nadd _ 1]
    rw [eC, eR]
    have hre2 := tRe_keep (fun j hj => j6.2 j hj) hre
    rcases j8 with ⟨t, k1, rfl, rfl, k4, k5, k6⟩ | ⟨rfl, k2⟩
    · have hkid2 : ∀ i, i < tNk T k → ty (tIn T k i) < g2 ∧ ar2 204 (tPl T (tIn T k i)) = nI (ty (tIn T k i)) ∧ aw2 54 (tIn T k i) = nI (ty (tIn T k i)) := fun i hi => by
        obtain ⟨a1, a2, a3⟩ := hkid i hi
        rw [j5.2 204 (by decide) (by decide) (by decide) (by decide) (by decide) (by decide), j6.2 54 (by decide)]
        exact ⟨Nat.lt_of_lt_of_le a1 j3.1, a2, a3⟩
      obtain ⟨c, r, g3, kd3, lb3, pt3, iv3, ar3, iw3, aw3, q1, q2, q3, q4, q5, q6, q7, q8⟩ := ih (i + 1) g2 kd2 lb2 pt2 t iv2 ar2 iw2 aw2 (n1 + 1) (n2 + 1) (by omega) (by omega) (by omega) (by omega) j4 k4 hre2 hkid2 k1 (fun j hj hjE => by
        obtain ⟨a1, -, -⟩ := hkid j (by omega)
        by_cases ej : j = i
        · subst ej; exact k6
        · exact blw_trans j4.2.1 (Nat.lt_of_lt_of_le a1 j3.1) (Nat.lt_of_lt_of_le hacc j3.1) k1 (blw_grow hG.2.1 j3 a1 hacc (hb j (by omega) hjE)) k5)
      exact ⟨c, r, g3, kd3, lb3, pt3, iv3, ar3, iw3, aw3, q1, q2, grow_t j3 q3, q4, fD_t j5 q5, fE_t j6 q6, by rw [q7, j7], q8⟩
    · refine ⟨m3, r, g2, kd2, lb2, pt2, iv2, ar2, iw2, aw2, ?_, ?_, j3, j4, j5, j6, j7, Or.inr ⟨rfl, k2⟩⟩
      · rw [mX2_joinBranches_L61]
        by_cases q : nI E ≤ nI (i + 1)
        · rw [if_pos q]
        · rw [if_neg q, if_pos (show m3 < 0 by decide)]
      · rw [mX12_typeTaken_L119]
        rw [if_neg (by first | exact nI_in (by omega) (by omega) | exact nI_inn (by omega) (by omega)), ncl (by omega)]
        by_cases q : (aw2 34 k) ≤ nI (i + 1)
        · rw [if_pos q]
        · rw [if_neg q, if_neg (show ¬ iw2 24 = 0 by rw [k2]; decide)]
end
