/-- what a call of term() leaves of the values -/
def fV (iv : mI) (ar : mA) (iw : mI) (aw : mA) (iv2 : mI) (ar2 : mA) (iw2 : mI) (aw2 : mA) : Prop := (iv2 1005 = iv 1005 ∧ iv2 408 = iv 408) ∧ (ar2 1000 = ar 1000 ∧ ar2 1001 = ar 1001 ∧ ar2 1002 = ar 1002) ∧ (iw2 56 = iw 56 ∧ iw2 57 = iw 57) ∧ aw2 58 = aw 58 ∧ aw2 59 = aw 59 ∧ aw2 60 = aw 60
theorem rlV_keep {iv iv2 : mI} {ar ar2 : mA} {iw iw2 : mI} {aw aw2 : mA} (h : fV iv ar iw aw iv2 ar2 iw2 aw2) (hv : rlV iv ar iw aw) : rlV iv2 ar2 iw2 aw2 := by
  obtain ⟨⟨a1, a2⟩, ⟨b1, b2, b3⟩, ⟨c1, c2⟩, d1, d2, d3⟩ := h
  unfold rlV
  rw [a1, a2, b1, b2, b3, c1, c2, d1, d2, d3]
  exact hv
theorem rlP_keep {iv iv2 : mI} {pA : mA} {iw iw2 : mI} {aw aw2 : mA} (h1 : iv2 1110 = iv 1110) (h2 : iw2 30 = iw 30) (h3 : ∀ k, 39 < k → k < 46 → aw2 k = aw k) (hp : rlP iv pA iw aw) : rlP iv2 pA iw2 aw2 := by
  rcases hp with ⟨a, b⟩ | ⟨a, b, m, T, g0, kd0, lb0, g, kd, lb, pt, ty, va, vis, c1, c2, c3, c4, c5⟩
  · exact Or.inl ⟨by rw [h1]; exact a, by rw [h2]; exact b⟩
  · refine Or.inr ⟨by rw [h1]; exact a, by rw [h2]; exact b, m, T, g0, kd0, lb0, g, kd, lb, pt, ty, va, vis, c1, c2, c3, ?_, c5⟩
    unfold tDo
    rw [h3 40 (by decide) (by decide), h3 41 (by decide) (by decide), h3 42 (by decide) (by decide), h3 45 (by decide) (by decide), h3 43 (by decide) (by decide), h3 44 (by decide) (by decide)]
    exact c4
theorem c_cut {f g : Nat} {iv : mI} {ar : mA} {la : mL} {pA pB : mA} (hf : f ≤ g) (hg : g ≤ 400) (h : iv 303 = nI g) : ∃ iv3, mX3_cutTo (nI f) iv ar la pA pB = some (0, iv3, ar, la, pA, pB) ∧ iv3 303 = nI f ∧ ∀ k, k ≠ 303 → iv3 k = iv k := by
  unfold mX3_cutTo
  rw [if_neg (nI_pos (by omega)), h]
  by_cases e : g ≤ f
  · have : g = f := by omega
    subst this
    exact ⟨iv, by rw [if_pos (nI_le (Nat.le_refl g) (by omega))], h, fun _ _ => rfl⟩
  · exact ⟨va_up iv 303 (nI f), by rw [if_neg (nI_ge (show f < g by omega) (by omega))], rfl, fun k hk => va_up_ne _ _ hk⟩
theorem sp_term {iv : mI} {ar : mA} {la : mL} {pA pB : mA} {iw : mI} {aw : mA} (hT : rlT iv ar iw aw) (hG : rlG iv ar iw aw) (ho : ordI iv la) (hP : rlP iv pA iw aw) : ∃ (r : Int32) (ivz : mI) (arz : mA) (laz : mL) (pBz : mA) (iwz : mI) (awz : mA) (qz : Nat), mX11_term iv ar la pA pB = some (r, ivz, arz, laz, pA, pBz, qz) ∧ mX12_term iw aw = some (r, iwz, awz) ∧ rlT ivz arz iwz awz ∧ rlG ivz arz iwz awz ∧ ordI ivz laz ∧ ivz 1111 = iwz 2 ∧ (((qz = 0 ∨ qz = 2) ∧ rlP ivz pA iwz awz) ∨ (qz = 3 ∧ rlP ivz pBz iwz awz)) ∧ fV iv ar iw aw ivz arz iwz awz := by
  obtain ⟨n, hn, t1, t2, t3⟩ := hT
  obtain ⟨f0, kd, lb, pt, hf, hGr, hC, hR⟩ := hG
  obtain ⟨F, hF, hFF⟩ : ∃ F, bigF = F + 1 ∧ 5000 < F := ⟨999999, rfl, by omega⟩
  have hrd : rd n 0 (va_up (va_up (va_up iv 802 0) 804 (-1)) 805 (-1)) ar (va_up (va_up (va_up iw 23 0) 24 0) 2 (-1)) aw := ⟨hn, Nat.zero_le n, t1, t2, rfl, rfl, rfl, t3⟩
  have hv := readAll (la := la) (pA := pA) (pB := pB) hf hGr (show cG f0 kd lb pt (va_up (va_up (va_up iv 802 0) 804 (-1)) 805 (-1)) ar from ⟨hC.1, hC.2⟩) (show rG f0 kd lb pt (va_up (va_up (va_up iw 23 0) 24 0) 2 (-1)) aw from ⟨hR.1, hR.2⟩) hrd ⟨rfl, rfl, rfl⟩
  have eR : mX12_term iw aw = ob (mX12_readTerms (va_up (va_up (va_up iw 23 0) 24 0) 2 (-1)) aw) (fun r21 iv21 ar21 => if (iv21 24) = 0 then if (iv21 0) ≤ (iv21 23) then mX12_term_J58 (nI f0) iv21 ar21 else ob (mX12_fail (-14) (iv21 23) iv21 ar21) (fun r49 iv49 ar49 => mX12_term_J58 (nI f0) (va_up iv49 24 r49) ar49) else mX12_term_J58 (nI f0) iv21 ar21) := by
    unfold mX12_term
    rw [hR.1]
  have eC : mX11_term iv ar la pA pB = obc (mX7_read (va_up (va_up (va_up iv 802 0) 804 (-1)) 805 (-1)) ar la pA pB) (fun r23 iv23 ar23 la23 pA23 pB23 => if r23 = 0 then obc (mX3_cutTo (nI f0) (va_up (va_up iv23 1111 (iv23 805)) 801 0) ar23 la23 pA23 pB23) (fun r103 iv103 ar103 la103 pA103 pB103 => some (iv23 804, iv103, ar103, la103, pA103, pB103, 0)) else obc (mX2_check (va_up (va_up iv23 1111 (iv23 805)) 801 0) ar23 la23 pA23 pB23) (fun r65 iv65 ar65 la65 pA65 pB65 => if r65 = (-15) then if 0 ≤ r65 then some (r65, va_up (va_up iv65 1111 (iv65 209)) 1110 1, ar65, la65, pA65, pB65, 3) else obc (mX3_cutTo (nI f0) (va_up iv65 1111 (iv65 209)) ar65 la65 pA65 pB65) (fun r103 iv103 ar103 la103 pA103 pB103 => some (r65, iv103, ar103, la103, pA103, pB103, 2)) else if 0 ≤ r65 then some (r65, va_up (va_up iv65 1111 (-1)) 1110 1, ar65, la65, pA65, pB65, 3) else obc (mX3_cutTo (nI f0) (va_up iv65 1111 (-1)) ar65 la65 pA65 pB65) (fun r103 iv103 ar103 la103 pA103 pB103 => some (r65, iv103, ar103, la103, pA103, pB103, 2)))) := by
    unfold mX11_term mX3_size mX8_rewind
    rw [obce, obce, hC.1]
    congr 1
    funext r23 iv23 ar23 la23 pA23 pB23
    unfold mX8_faultPlace mX8_fault mX8_empty
    rw [obce, obce, obce]
    by_cases e : r23 = 0
    · rw [if_pos e, if_pos e, if_pos e]
      rfl
    · rw [if_neg e, if_neg e]
      congr 1
      funext r65 iv65 ar65 la65 pA65 pB65
      unfold mX2_misfitPlace
      rw [obce]
      simp only [if_neg e]
  have fAi : ∀ {iv2 : mI} {ar2 : mA}, fA (va_up (va_up (va_up iv 802 0) 804 (-1)) 805 (-1)) ar iv2 ar2 → fA iv ar iv2 ar2 := fun h => fA_t ⟨fun k a b c d e => by rw [va_up_ne _ _ d, va_up_ne _ _ c, va_up_ne _ _ a], fun _ _ _ _ _ => rfl⟩ h
  have fBi : ∀ {iw2 : mI} {aw2 : mA}, fB (va_up (va_up (va_up iw 23 0) 24 0) 2 (-1)) aw iw2 aw2 → fB iw aw iw2 aw2 := fun h => fB_t ⟨fun k a b c d e => by rw [va_up_ne _ _ a, va_up_ne _ _ c, va_up_ne _ _ b], fun _ _ => rfl⟩ h
  rw [eC, eR]
  -- a fault of the text
  have fault : ∀ (iv2 : mI) (ar2 : mA) (pB2 : mA) (iw2 : mI) (aw2 : mA), flu iv2 iw2 → fA iv ar iv2 ar2 → fB iw aw iw2 aw2 → ∃ (r : Int32) (ivz : mI) (iwz : mI), obc (mX3_cutTo (nI f0) (va_up (va_up iv2 1111 (iv2 805)) 801 0) ar2 la pA pB2) (fun _ iv103 ar103 la103 pA103 pB103 => some (iv2 804, iv103, ar103, la103, pA103, pB103, 0)) = some (r, ivz, ar2, la, pA, pB2, 0) ∧ mX12_term_J58 (nI f0) iw2 aw2 = some (r, iwz, aw2) ∧ rlT ivz ar2 iwz aw2 ∧ rlG ivz ar2 iwz aw2 ∧ ordI ivz la ∧ ivz 1111 = iwz 2 ∧ rlP ivz pA iwz aw2 ∧ fV iv ar iw aw ivz ar2 iwz aw2 := by
    intro iv2 ar2 pB2 iw2 aw2 hfl h1 h2
    have h303 : iv2 303 = nI f0 := by rw [h1.1 303 (by decide) (by decide) (by decide) (by decide) (by decide)]; exact hC.1
    obtain ⟨iv3, c1, c2, c3⟩ := c_cut (ar := ar2) (la := la) (pA := pA) (pB := pB2) (iv := va_up (va_up iv2 1111 (iv2 805)) 801 0) (Nat.le_refl f0) (by omega) h303
    have h0 := flu0 hfl
    obtain ⟨c, w, -, d1, d2, d3, d4⟩ := hfl
    refine ⟨c, iv3, va_up (va_up iw2 0 0) 3 (nI f0), ?_, ?_, ⟨0, by omega, by rw [c3 _ (by decide)]; rfl, rfl, fun j hj => absurd hj (Nat.not_lt_zero j)⟩, ⟨f0, kd, lb, pt, hf, hGr, ⟨c2, (cG_fA h1 hC).2⟩, ⟨rfl, (rG_fB h2 hR).2⟩⟩, ordI_keep (by rw [c3 _ (by decide)]; exact h1.1 503 (by decide) (by decide) (by decide) (by decide) (by decide)) ho, ?_, rlP_keep (by rw [c3 _ (by decide)]; exact h1.1 1110 (by decide) (by decide) (by decide) (by decide) (by decide)) (h2.1 30 (by decide) (by decide) (by decide) (by decide) (by decide)) (fun k k1 k2 => h2.2 k (by omega)) hP, ⟨⟨by rw [c3 _ (by decide)]; exact h1.1 1005 (by decide) (by decide) (by decide) (by decide) (by decide), by rw [c3 _ (by decide)]; exact h1.1 408 (by decide) (by decide) (by decide) (by decide) (by decide)⟩, ⟨h1.2 _ (by decide) (by decide) (by decide) (by decide), h1.2 _ (by decide) (by decide) (by decide) (by decide), h1.2 _ (by decide) (by decide) (by decide) (by decide)⟩, ⟨h2.1 56 (by decide) (by decide) (by decide) (by decide) (by decide), h2.1 57 (by decide) (by decide) (by decide) (by decide) (by decide)⟩, h2.2 _ (by decide), h2.2 _ (by decide), h2.2 _ (by decide)⟩⟩
    · rw [c1, obce, d1]
    · unfold mX12_term_J58
      rw [if_neg (show ¬ (va_up iw2 0 0) 24 = 0 from h0)]
      unfold mX12_term_J74
      rw [if_neg (show ¬ (va_up iw2 0 0) 24 = 0 from h0), show (va_up (va_up iw2 0 0) 3 (nI f0)) 24 = iw2 24 from rfl, d2]
    · rw [c3 _ (by decide)]
      show iv2 805 = iw2 2
      rw [d3, d4]
  rcases hv with ⟨iv2, ar2, pB2, iw2, aw2, a1, a2, a3, a4, a5⟩ | ⟨m2, p2, T2, iv2, ar2, pB2, iw2, aw2, a1, a2, ⟨a3, hpz⟩, a4, a5, a6⟩
  · obtain ⟨r, ivz, iwz, b1, b2, b3, b4, b5, b6, b7, b8⟩ := fault iv2 ar2 pB2 iw2 aw2 a3 (fAi a4) (fBi a5)
    rw [a1, a2, obce, obe, if_pos rfl, if_neg (flu0 a3), b1, b2]
    exact ⟨r, ivz, ar2, la, pB2, iwz, aw2, 0, rfl, rfl, b3, b4, b5, b6, Or.inl ⟨Or.inl rfl, b7⟩, b8⟩
  · obtain ⟨hrd2, hst, ⟨hcl, hre⟩, -, ⟨m1', -, -, m4'⟩, -, z1, z2, z3⟩ := a4
    obtain ⟨e1, e2, e3, e4, e5, e6, e7, e8⟩ := hrd2
    rw [a1, a2, obe, if_pos e7, e4, e6]
    unfold mX8_takeEnd
    rw [e3, e5]
    have fA2 := fAi a5
    have fB2 := fBi a6
    by_cases el : p2 = n
    · rw [el, if_pos (nI_le (Nat.le_refl n) (by omega)), if_pos (nI_le (Nat.le_refl n) (by omega)), obce, if_pos (Or.inr rfl), obce, if_neg (show ¬ (1 : Int32) = 0 by decide), z2]
      have hA : tAll f0 kd lb m2 T2 := ⟨a3, by omega, hst⟩
      have hg0 : gAll f0 kd lb pt (va_up (va_up iv2 1111 m1) 801 0) ar2 la (va_up iw2 0 0) aw2 := ⟨hf, hGr, ⟨(cG_fA fA2 hC).1, (cG_fA fA2 hC).2⟩, ⟨(rG_fB fB2 hR).1, (rG_fB fB2 hR).2⟩, ordI_keep (fA2.1 503 (by decide) (by decide) (by decide) (by decide) (by decide)) ho⟩
      have hz := checkY (g := 0) (pA := pA) hA hcl hre hg0 e7 z3 hpz
      unfold mX12_term_J58
      rw [if_pos (show (va_up iw2 0 0) 24 = 0 from e7)]
      rcases hz with ⟨g2, kd2, lb2, pt2, ty2, va2, nxf2, vis2, iv4, ar4, la4, iw4, aw4, q1, q2, q3, q4, q5⟩ | ⟨c, iv4, ar4, la4, iw4, aw4, q1, q2, ⟨⟨g2, kd2, lb2, pt2, q6, q7⟩, q3⟩, q4, q5⟩
      · have hok := yAll_ok q3
        obtain ⟨⟨-, -, hcl4, hre4⟩, ⟨hg4, h24, h2⟩, ⟨hV, -, h0v⟩, -⟩ := q3
        obtain ⟨-, w2, -, w4, -⟩ := (hV 0 h0v).2.1 (fun hh => by cases hh)
        have hty : ty2 0 < 200 := Nat.lt_of_lt_of_le w2 hg4.1
        have hne15 : ¬ nI (ty2 0) = -15 := fun e => by
          have h1 := congrArg Int32.toInt e
          rw [nI_toInt (by omega), show (-15 : Int32).toInt = -15 by decide] at h1
          omega
        have h31 : iw4 31 = nI m2 := by rw [q5.1 31 (by decide) (by decide) (by decide) (by decide) (by decide) (by decide)]; exact m4'
        obtain ⟨aw5, c1, c2, -, c4⟩ := copy_out (m := m2) (iw := va_up (va_up iw4 30 1) 39 (iw4 31)) (by omega) h31 m2 0 bigF aw4 (by omega) (Nat.zero_le _) (by omega)
        rw [q1, q2, obce, obe, if_neg hne15, if_pos (nI_pos' (by omega))]
        unfold mX12_term_J74
        have c1' : mX12_term_L106 bigF 0 (va_up (va_up iw4 30 1) 39 ((va_up iw4 30 1) 31)) aw4 = some (aw4 54 0, va_up (va_up iw4 30 1) 39 (iw4 31), aw5) := c1
        rw [if_pos h24, c1', w4]
        refine ⟨nI (ty2 0), _, ar4, la4, pB2, _, aw5, 3, rfl, rfl, ⟨0, by omega, ?_, ?_, fun j hj => absurd hj (Nat.not_lt_zero j)⟩, ⟨g2, kd2, lb2, pt2, hg4.1, hg4.2.1, ⟨hg4.2.2.1.1, hg4.2.2.1.2⟩, ⟨hg4.2.2.2.1.1, fun k hk => ?_⟩⟩, ordI_keep rfl hg4.2.2.2.2, ?_, Or.inr ⟨rfl, Or.inr ⟨rfl, rfl, m2, T2, f0, kd, lb, g2, kd2, lb2, pt2, ty2, va2, vis2, hA, hpz, hcl4, fun k hk => ?_, hok⟩⟩, ⟨⟨?_, ?_⟩, ⟨?_, ?_, ?_⟩, ⟨?_, ?_⟩, ?_, ?_, ?_⟩⟩
        · show iv4 801 = nI 0
          rw [q4.1 801 (by decide) (by decide) (by decide) (by decide) (by decide) (by decide)]
          rfl
        · show iw4 0 = nI 0
          rw [q5.1 0 (by decide) (by decide) (by decide) (by decide) (by decide) (by decide)]
          rfl
        · rw [c2 4 (by decide), c2 5 (by decide), c2 6 (by decide)]
          exact hg4.2.2.2.1.2 k hk
        · exact h2.symm
        · obtain ⟨b1, b2, b3, b4, b5⟩ := c4 k (Nat.zero_le k) hk
          obtain ⟨⟨d1, d2, d3, d4, d5⟩, d6⟩ := hre4 k hk
          have h9 := hOK9 (hA.2.2 k hk).1.1
          refine ⟨⟨by rw [b1]; exact d1, by rw [b2]; exact d3, by rw [b3]; exact d4, by rw [b4, d5, tAll_mn hA hk]⟩, fun i hi => ?_⟩
          rw [(b5 i (by omega)).1, (b5 i (by omega)).2]
          exact d6 i (by rw [tAll_mn hA hk]; exact hi)
        · show iv4 1005 = iv 1005
          rw [q4.1 1005 (by decide) (by decide) (by decide) (by decide) (by decide) (by decide)]
          exact fA2.1 1005 (by decide) (by decide) (by decide) (by decide) (by decide)
        · show iv4 408 = iv 408
          rw [q4.1 408 (by decide) (by decide) (by decide) (by decide) (by decide) (by decide)]
          exact fA2.1 408 (by decide) (by decide) (by decide) (by decide) (by decide)
        · rw [q4.2 1000 (by decide) (by decide) (by decide) (by decide) (by decide) (by decide) (by decide) (by decide) (by decide) (by decide)]
          exact fA2.2 1000 (by decide) (by decide) (by decide) (by decide)
        · rw [q4.2 1001 (by decide) (by decide) (by decide) (by decide) (by decide) (by decide) (by decide) (by decide) (by decide) (by decide)]
          exact fA2.2 1001 (by decide) (by decide) (by decide) (by decide)
        · rw [q4.2 1002 (by decide) (by decide) (by decide) (by decide) (by decide) (by decide) (by decide) (by decide) (by decide) (by decide)]
          exact fA2.2 1002 (by decide) (by decide) (by decide) (by decide)
        · show iw4 56 = iw 56
          rw [q5.1 56 (by decide) (by decide) (by decide) (by decide) (by decide) (by decide)]
          exact fB2.1 56 (by decide) (by decide) (by decide) (by decide) (by decide)
        · show iw4 57 = iw 57
          rw [q5.1 57 (by decide) (by decide) (by decide) (by decide) (by decide) (by decide)]
          exact fB2.1 57 (by decide) (by decide) (by decide) (by decide) (by decide)
        · rw [c2 58 (by decide), q5.2 58 (by decide)]; exact fB2.2 58 (by decide)
        · rw [c2 59 (by decide), q5.2 59 (by decide)]; exact fB2.2 59 (by decide)
        · rw [c2 60 (by decide), q5.2 60 (by decide)]; exact fB2.2 60 (by decide)
      · have h24 : ¬ iw4 24 = 0 := by rcases q3 with ⟨-, e, -⟩ | ⟨-, e, -⟩ <;> rw [e] <;> decide
        have hc0 : ¬ (0 : Int32) ≤ c := by rcases q3 with ⟨e, -⟩ | ⟨e, -⟩ <;> rw [e] <;> decide
        have h24c : iw4 24 = c := by rcases q3 with ⟨e, e2, -⟩ | ⟨e, e2, -⟩ <;> rw [e, e2]
        have hg2 := q7.1
        -- the nodes are taken back
        have fin : ∀ w : Int32, w = iw4 2 → ∃ ivz : mI, obc (mX3_cutTo (nI f0) (va_up iv4 1111 w) ar4 la4 pA pB2) (fun _ iv103 ar103 la103 pA103 pB103 => some (c, iv103, ar103, la103, pA103, pB103, 2)) = some (c, ivz, ar4, la4, pA, pB2, 2) ∧ rlT ivz ar4 (va_up iw4 3 (nI f0)) aw4 ∧ rlG ivz ar4 (va_up iw4 3 (nI f0)) aw4 ∧ ordI ivz la4 ∧ ivz 1111 = iw4 2 ∧ rlP ivz pA (va_up iw4 3 (nI f0)) aw4 ∧ fV iv ar iw aw ivz ar4 (va_up iw4 3 (nI f0)) aw4 := by
          intro w hw
          obtain ⟨iv5, c1, c2, c3⟩ := c_cut (f := f0) (ar := ar4) (la := la4) (pA := pA) (pB := pB2) (iv := va_up iv4 1111 w) q6.1 (by omega) q7.2.2.1.1
          refine ⟨iv5, by rw [c1, obce], ⟨0, by omega, ?_, ?_, fun j hj => absurd hj (Nat.not_lt_zero j)⟩, ⟨f0, kd, lb, pt, hf, hGr, cG_sub q6 q7.2.2.1 c2, rG_sub q6 q7.2.2.2.1 rfl⟩, ordI_keep (by rw [c3 _ (by decide)]; rfl) q7.2.2.2.2, by rw [c3 _ (by decide)]; exact hw, rlP_keep ?_ ?_ (fun k k1 k2 => ?_) hP, ⟨⟨?_, ?_⟩, ⟨?_, ?_, ?_⟩, ⟨?_, ?_⟩, ?_, ?_, ?_⟩⟩
          · rw [c3 _ (by decide)]
            show iv4 801 = nI 0
            rw [q4.1 801 (by decide) (by decide) (by decide) (by decide) (by decide) (by decide)]
            rfl
          · show iw4 0 = nI 0
            rw [q5.1 0 (by decide) (by decide) (by decide) (by decide) (by decide) (by decide)]
            rfl
          · rw [c3 _ (by decide)]
            show iv4 1110 = iv 1110
            rw [q4.1 1110 (by decide) (by decide) (by decide) (by decide) (by decide) (by decide)]
            exact fA2.1 1110 (by decide) (by decide) (by decide) (by decide) (by decide)
          · show iw4 30 = iw 30
            rw [q5.1 30 (by decide) (by decide) (by decide) (by decide) (by decide) (by decide)]
            exact fB2.1 30 (by decide) (by decide) (by decide) (by decide) (by decide)
          · rw [q5.2 k (by omega), fB2.2 k (by omega)]
          · rw [c3 _ (by decide)]
            show iv4 1005 = iv 1005
            rw [q4.1 1005 (by decide) (by decide) (by decide) (by decide) (by decide) (by decide)]
            exact fA2.1 1005 (by decide) (by decide) (by decide) (by decide) (by decide)
          · rw [c3 _ (by decide)]
            show iv4 408 = iv 408
            rw [q4.1 408 (by decide) (by decide) (by decide) (by decide) (by decide) (by decide)]
            exact fA2.1 408 (by decide) (by decide) (by decide) (by decide) (by decide)
          · rw [q4.2 1000 (by decide) (by decide) (by decide) (by decide) (by decide) (by decide) (by decide) (by decide) (by decide) (by decide)]
            exact fA2.2 1000 (by decide) (by decide) (by decide) (by decide)
          · rw [q4.2 1001 (by decide) (by decide) (by decide) (by decide) (by decide) (by decide) (by decide) (by decide) (by decide) (by decide)]
            exact fA2.2 1001 (by decide) (by decide) (by decide) (by decide)
          · rw [q4.2 1002 (by decide) (by decide) (by decide) (by decide) (by decide) (by decide) (by decide) (by decide) (by decide) (by decide)]
            exact fA2.2 1002 (by decide) (by decide) (by decide) (by decide)
          · show iw4 56 = iw 56
            rw [q5.1 56 (by decide) (by decide) (by decide) (by decide) (by decide) (by decide)]
            exact fB2.1 56 (by decide) (by decide) (by decide) (by decide) (by decide)
          · show iw4 57 = iw 57
            rw [q5.1 57 (by decide) (by decide) (by decide) (by decide) (by decide) (by decide)]
            exact fB2.1 57 (by decide) (by decide) (by decide) (by decide) (by decide)
          · rw [q5.2 58 (by decide)]; exact fB2.2 58 (by decide)
          · rw [q5.2 59 (by decide)]; exact fB2.2 59 (by decide)
          · rw [q5.2 60 (by decide)]; exact fB2.2 60 (by decide)
        rw [q1, q2, obce, obe, if_neg hc0]
        unfold mX12_term_J74
        rw [if_neg h24, show (va_up iw4 3 (nI f0)) 24 = iw4 24 from rfl, h24c, if_neg hc0]
        rcases q3 with ⟨e, e2, e3⟩ | ⟨e, e2, e3⟩
        · rw [if_pos (show c = -15 from e)]
          obtain ⟨ivz, b1, b2, b3, b4, b5, b6, b7⟩ := fin (iv4 209) e3.symm
          exact ⟨c, ivz, ar4, la4, pB2, _, aw4, 2, b1, rfl, b2, b3, b4, b5, Or.inl ⟨Or.inr rfl, b6⟩, b7⟩
        · rw [if_neg (show ¬ c = -15 by rw [e]; decide)]
          obtain ⟨ivz, b1, b2, b3, b4, b5, b6, b7⟩ := fin (-1) e3.symm
          exact ⟨c, ivz, ar4, la4, pB2, _, aw4, 2, b1, rfl, b2, b3, b4, b5, Or.inl ⟨Or.inr rfl, b6⟩, b7⟩
    · have hlt : p2 < n := by omega
      rw [if_neg (nI_ge hlt (by omega)), if_neg (nI_ge hlt (by omega))]
      obtain ⟨r, ivz, iwz, b1, b2, b3, b4, b5, b6, b7, b8⟩ := fault (va_up (va_up iv2 804 m14) 805 (nI p2)) ar2 pB2 (va_up (va_up iw2 24 m14) 2 (nI p2)) aw2 ⟨m14, nI p2, Or.inr (Or.inr rfl), rfl, rfl, rfl, rfl⟩ (fA_t fA2 (fA_fail _ _ _ _)) (fB_t fB2 (fB_fail _ _ _ _))
      unfold mX8_fail mX12_fail
      rw [obce, if_pos rfl, obce, if_pos (Or.inl rfl), obce, if_pos rfl, obe]
      have e9 : va_up (va_up (va_up iw2 24 (-14)) 2 (nI p2)) 24 (-14) = va_up (va_up iw2 24 m14) 2 (nI p2) := funext fun k => by
        by_cases q1 : k = 24
        · subst q1; rfl
        · rw [va_up_ne _ _ q1]; rfl
      have b1' : obc (mX3_cutTo (nI f0) (va_up (va_up (va_up (va_up iv2 804 (-14)) 805 (nI p2)) 1111 ((va_up (va_up iv2 804 (-14)) 805 (nI p2)) 805)) 801 0) ar2 la pA pB2) (fun _ iv103 ar103 la103 pA103 pB103 => some ((va_up (va_up iv2 804 (-14)) 805 (nI p2)) 804, iv103, ar103, la103, pA103, pB103, 0)) = some (r, ivz, ar2, la, pA, pB2, 0) := b1
      rw [e9, b1', b2]
      exact ⟨r, ivz, ar2, la, pB2, iwz, aw2, 0, rfl, rfl, b3, b4, b5, b6, Or.inl ⟨Or.inl rfl, b7⟩, b8⟩
