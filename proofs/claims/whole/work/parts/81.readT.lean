theorem copy_loop {n : Nat} {iv : mI} {ar : mA} {la : mL} {pA : mA} (hn : n ≤ 200) (h : iv 801 = nI n) : ∀ (d j N : Nat) (pB : mA), n - j ≤ d → d < N → j ≤ n → (∀ i, i < j → pB 0 i = ar 800 i) → ∃ pB2, mX8_copyTo_L2 N (nI j) iv ar la pA pB = some (0, iv, ar, la, pA, pB2) ∧ (∀ i, i < n → pB2 0 i = ar 800 i)
  | d, j, 0, pB, _, hN, _, _ => absurd hN (Nat.not_lt_zero d)
  | d, j, N + 1, pB, hd, hN, hj, hp => by
    by_cases e : j = n
    · subst e
      refine ⟨pB, ?_, hp⟩
      rw [mX8_copyTo_L2]
      rw [h, if_pos (nI_le (Nat.le_refl j) (by omega))]
    · obtain ⟨d, rfl⟩ : ∃ x, d = x + 1 := ⟨d - 1, by omega⟩
      obtain ⟨pB2, a1, a2⟩ := copy_loop (la := la) (pA := pA) hn h d (j + 1) N (au pB 0 j (ar 800 j)) (by omega) (by omega) (by omega) (fun i hi => by
        by_cases ei : i = j
        · rw [ei, au_self]
        · rw [au_ni _ ei]; exact hp i (by omega))
      refine ⟨pB2, ?_, a2⟩
      rw [mX8_copyTo_L2]
      rw [h, if_neg (nI_ge (show j < n by omega) (by omega)), if_neg (show ¬ (200 : Int32) ≤ nI j from nI_ge (show j < 200 by omega) (by decide)), if_neg (by first | exact nI_in (by omega) (by omega) | exact nI_inn (by omega) (by omega)), if_neg (by first | exact nI_in (by omega) (by omega) | exact nI_inn (by omega) (by omega)), ncl (by omega), show nI j + 1 = nI (j + 1) from nadd _ 1]
      exact a1
theorem readAll {g : Nat} {kd lb : Nat → Nat} {pt : Nat → Nat → Nat} {n : Nat} {iv : mI} {ar : mA} {la : mL} {pA pB : mA} {iw : mI} {aw : mA} (hg : g ≤ 200) (hGr : Gr g kd lb pt) (hCg : cG g kd lb pt iv ar) (hRg : rG g kd lb pt iw aw) (hrd : rd n 0 iv ar iw aw) (hz : iv 804 = m1 ∧ iv 805 = m1 ∧ iw 2 = m1) : vOut g kd lb n iv ar la pA iw aw (mX7_read iv ar la pA pB) (mX12_readTerms iw aw) := by
  have hn := hrd.1
  obtain ⟨F, hF, hFF⟩ : ∃ F, bigF = F + 2 ∧ 5000 < F := ⟨999998, rfl, by omega⟩
  obtain ⟨pB2, a1, a2⟩ := copy_loop (la := la) (pA := pA) hn hrd.2.2.1 n 0 bigF pB (by omega) (by omega) (Nat.zero_le n) (fun i hi => absurd hi (Nat.not_lt_zero i))
  have fA1 : fA iv ar (va_up iv 707 0) ar := ⟨fun k a b c d e => va_up_ne _ _ e, fun _ _ _ _ _ => rfl⟩
  have fB1 : fB iw aw (va_up (va_up iw 31 0) 48 0) aw := ⟨fun k a b c d e => by rw [va_up_ne _ _ e, va_up_ne _ _ d], fun _ _ => rfl⟩
  have hrd2 : rd n 0 (va_up iv 707 0) ar (va_up (va_up iw 31 0) 48 0) aw := rd_next hrd (Nat.zero_le n) rfl rfl hrd.2.2.2.2.1 hrd.2.2.2.2.2.1 rfl rfl rfl
  have eC : mX7_read iv ar la pA pB = obc (mX7_readTerm (va_up iv 707 0) ar la pA pB2) (fun r38 iv38 ar38 la38 pA38 pB38 => if r38 = 0 then some (0, iv38, ar38, la38, pA38, pB38) else if (iv38 707) = 0 then obc (mX8_takeEnd iv38 ar38 la38 pA38 pB38) (fun r57 iv57 ar57 la57 pA57 pB57 => if r57 = 0 ∨ r57 = 1 then some (r57, iv57, ar57, la57, pA57, pB57) else none) else mX7_read_L23 (F + 1) (nI 0 + 1) iv38 ar38 la38 pA38 pB38) := by
    unfold mX7_read mX6_startB mX8_copyTo
    rw [show (0 : Int32) = nI 0 from rfl, a1, obce, obce, hF]
    conv => lhs; rw [mX7_read_L23]
    rw [if_neg (show ¬ (200 : Int32) < nI 0 by decide)]
    have hlb : mX7_readLabel (va_up iv 707 (nI 0)) ar la pA pB2 = some (1, va_up iv 707 (nI 0), ar, la, pA, pB2) := by
      unfold mX7_readLabel
      rw [if_pos (show (va_up iv 707 (nI 0)) 707 - 1 < 0 from (show nI 0 - (1 : Int32) < 0 by decide))]
    rw [hlb, obce, if_neg (show ¬ (1 : Int32) = 0 by decide)]
    rfl
  have eR : mX12_readTerms iw aw = mX12_readTerms_L16 (F + 2) (nI 0) 0 1 (va_up (va_up iw 31 0) 48 0) aw := by
    unfold mX12_readTerms
    rw [hF]
    rfl
  rw [eC, eR]
  refine vOut_t fA1 fB1 (stepT hn (Nat.le_refl 0) (rootT hg hGr (cG_fA fA1 hCg) (rG_fB fB1 hRg) hrd2 rfl rfl rfl a2 hz) (fun p2 m2 T2 dn2 k2 os2 iv2 ar2 pB3 iw2 aw2 hp hz2 f1 f2 hB2 hW2 => ?_))
  exact loopT hg hGr hn 200 p2 m2 T2 dn2 k2 os2 iv2 ar2 pB3 iw2 aw2 1 F (F + 1) (by omega) (by omega) (by omega) (by omega) (cG_fA f1 (cG_fA fA1 hCg)) (rG_fB f2 (rG_fB fB1 hRg)) hB2 hW2 hz2
