/-- what a call of type() may change -/
def fTz (iv : mI) (ar : mA) (iv2 : mI) (ar2 : mA) : Prop := (∀ k, k ≠ 303 → k ≠ 801 → k ≠ 802 → k ≠ 803 → k ≠ 804 → k ≠ 805 → k ≠ 906 → k ≠ 1111 → iv2 k = iv k) ∧ (∀ k, k ≠ 300 → k ≠ 301 → k ≠ 302 → k ≠ 902 → k ≠ 903 → k ≠ 904 → k ≠ 905 → ar2 k = ar k)
def fUz (iw : mI) (aw : mA) (iw2 : mI) (aw2 : mA) : Prop := (∀ k, k ≠ 0 → k ≠ 2 → k ≠ 3 → k ≠ 23 → k ≠ 24 → k ≠ 29 → iw2 k = iw k) ∧ (∀ k, k ≠ 4 → k ≠ 5 → k ≠ 6 → k ≠ 25 → k ≠ 26 → k ≠ 27 → k ≠ 28 → aw2 k = aw k)
/-- the nodes that were there before are there, whatever came behind them -/
theorem cG_cut {f0 : Nat} {kd lb : Nat → Nat} {pt : Nat → Nat → Nat} {iv iv2 iv3 : mI} {ar ar2 : mA} (hf : f0 ≤ 200) (h : cG f0 kd lb pt iv ar) (h2 : fT f0 iv ar iv2 ar2) (h3 : iv3 303 = nI f0) : cG f0 kd lb pt iv3 ar2 := by
  refine ⟨h3, fun k hk => ?_⟩
  obtain ⟨a1, a2, a3⟩ := h.2 k hk
  rw [(h2.2.2.1 k hk).1, (h2.2.2.1 k hk).2]
  refine ⟨a1, a2, fun l hl hb => ?_⟩
  rw [h2.2.2.2 _ (by omega)]
  exact a3 l hl hb
theorem rG_cut {f0 : Nat} {kd lb : Nat → Nat} {pt : Nat → Nat → Nat} {iv iv2 iv3 : mI} {ar ar2 : mA} (hf : f0 ≤ 200) (h : rG f0 kd lb pt iv ar) (h2 : fU f0 iv ar iv2 ar2) (h3 : iv3 3 = nI f0) : rG f0 kd lb pt iv3 ar2 := by
  refine ⟨h3, fun k hk => ?_⟩
  obtain ⟨a1, a2, a3⟩ := h.2 k hk
  rw [(h2.2.2.1 k hk).1, (h2.2.2.1 k hk).2]
  refine ⟨a1, a2, fun l hl hb => ?_⟩
  rw [h2.2.2.2 _ (by omega)]
  exact a3 l hl hb
theorem sp_type {iv : mI} {ar : mA} {la : mL} {pA pB : mA} {iw : mI} {aw : mA} (hT : rlT iv ar iw aw) (hG : rlG iv ar iw aw) : ∃ (r : Int32) (ivz : mI) (arz : mA) (iwz : mI) (awz : mA), mX11_type iv ar la pA pB = some (r, ivz, arz, la, pA, pB) ∧ mX12_type iw aw = some (r, iwz, awz) ∧ rlT ivz arz iwz awz ∧ rlG ivz arz iwz awz ∧ ivz 1111 = iwz 2 ∧ fTz iv ar ivz arz ∧ fUz iw aw iwz awz := by
  obtain ⟨n, hn, t1, t2, t3⟩ := hT
  obtain ⟨f0, kd, lb, pt, hf, hGr, hC, hR⟩ := hG
  obtain ⟨F, hF, hFF⟩ : ∃ F, bigF = F + 1 ∧ 5000 < F := ⟨999999, rfl, by omega⟩
  have hw : wst f0 f0 n 0 kd lb lb pt [] (va_up (va_up (va_up (va_up iv 802 0) 804 (-1)) 805 (-1)) 906 0) ar (va_up (va_up (va_up (va_up iw 23 0) 24 0) 2 (-1)) 29 0) aw := by
    refine ⟨⟨hn, Nat.zero_le n, t1, t2, rfl, rfl, rfl, t3⟩, trivial, ⟨hC.1, hR.1, Nat.le_refl f0, fun k hk => ?_⟩, ⟨trivial, trivial, rfl, rfl⟩, ⟨Nat.le_refl 0, hf, Nat.le_refl f0⟩, fun _ => rfl, rfl, rfl, rfl⟩
    obtain ⟨g1, g2, g3, g4, g5⟩ := hGr k hk
    obtain ⟨c1, c2, c3⟩ := hC.2 k hk
    obtain ⟨r1, r2, r3⟩ := hR.2 k hk
    exact ⟨⟨g1, g2, c1, r1, c2, r2⟩, fun l hl hb => ⟨c3 l hl hb, r3 l hl hb, g5 l hl hb⟩, fun _ => ⟨rfl, g3, g4⟩⟩
  have hE := read_loop (la := la) (pA := pA) (pB := pB) (L := nI f0) 200 f0 0 kd lb lb pt [] _ ar _ aw 0 F bigF (-1) (by omega) (by omega) (by omega) (Nat.le_refl 0) hw
  have cE : mX9_read (va_up (va_up (va_up iv 802 0) 804 (-1)) 805 (-1)) ar la pA pB = obc (mX9_readWord (va_up (va_up (va_up (va_up iv 802 0) 804 (-1)) 805 (-1)) 906 0) ar la pA pB) (fun r22 iv22 ar22 la22 pA22 pB22 => if r22 = 0 then some (0, iv22, ar22, la22, pA22, pB22) else if (iv22 906) = 0 then obc (mX8_takeEnd iv22 ar22 la22 pA22 pB22) (fun r41 iv41 ar41 la41 pA41 pB41 => if r41 = 0 ∨ r41 = 1 then some (r41, iv41, ar41, la41, pA41, pB41) else none) else mX9_read_L7 F (nI 0 + 1) iv22 ar22 la22 pA22 pB22) := by
    unfold mX9_read
    rw [hF, mX9_read_L7]
    rw [if_neg (show ¬ (200 : Int32) < 0 by decide)]
    have e : mX9_readLabel (va_up (va_up (va_up (va_up iv 802 0) 804 (-1)) 805 (-1)) 906 0) ar la pA pB = some (1, va_up (va_up (va_up (va_up iv 802 0) 804 (-1)) 805 (-1)) 906 0, ar, la, pA, pB) := by
      unfold mX9_readLabel
      rw [if_pos (show (va_up (va_up (va_up (va_up iv 802 0) 804 (-1)) 805 (-1)) 906 0) 906 - 1 < (0 : Int32) from (show (0 : Int32) - 1 < 0 by decide))]
    rw [e, obce, if_neg (show ¬ (1 : Int32) = 0 by decide)]
    rfl
  rw [← cE] at hE
  have cT : mX11_type iv ar la pA pB = obc (mX9_read (va_up (va_up (va_up iv 802 0) 804 (-1)) 805 (-1)) ar la pA pB) (fun r19 iv19 ar19 la19 pA19 pB19 => if 200 < iv19 303 then mX11_type_J41 (nI f0) r19 0 iv19 ar19 la19 pA19 pB19 else mX11_type_J41 (nI f0) r19 1 iv19 ar19 la19 pA19 pB19) := by
    unfold mX11_type mX3_size mX8_rewind
    rw [obce, obce, hC.1]
    rfl
  have rT : mX12_type iw aw = mX12_type_L29 bigF (nI f0) (-1) 1 (va_up (va_up (va_up (va_up iw 23 0) 24 0) 2 (-1)) 29 0) aw := by
    unfold mX12_type
    rw [hR.1]
  rw [cT, rT]
  have fTi : ∀ {iv2 : mI} {ar2 : mA}, fT f0 (va_up (va_up (va_up (va_up iv 802 0) 804 (-1)) 805 (-1)) 906 0) ar iv2 ar2 → fT f0 iv ar iv2 ar2 := fun h => fT_t ⟨fun k a b c d e f => by rw [va_up_ne _ _ f, va_up_ne _ _ e, va_up_ne _ _ d, va_up_ne _ _ b], fun _ _ _ _ _ _ _ _ => rfl, fun _ _ => ⟨rfl, rfl⟩, fun _ _ => rfl⟩ h
  have fUi : ∀ {iv2 : mI} {ar2 : mA}, fU f0 (va_up (va_up (va_up (va_up iw 23 0) 24 0) 2 (-1)) 29 0) aw iv2 ar2 → fU f0 iw aw iv2 ar2 := fun h => fU_t ⟨fun k a b c d e => by rw [va_up_ne _ _ e, va_up_ne _ _ d, va_up_ne _ _ c, va_up_ne _ _ b], fun _ _ _ _ _ _ _ _ => rfl, fun _ _ => ⟨rfl, rfl⟩, fun _ _ => rfl⟩ h
  -- a fault: the nodes before stay
  have fault : ∀ (x : Int32) (iv2 : mI) (ar2 : mA) (iw2 : mI) (aw2 : mA), flt f0 iv2 iw2 → fT f0 iv ar iv2 ar2 → fU f0 iw aw iw2 aw2 → ∃ (r : Int32) (ivz : mI) (arz : mA) (iwz : mI) (awz : mA), (∀ s, mX11_type_J41 (nI f0) 0 s iv2 ar2 la pA pB = some (r, ivz, arz, la, pA, pB)) ∧ mX12_type_J121 (nI f0) x iw2 aw2 = some (r, iwz, awz) ∧ rlT ivz arz iwz awz ∧ rlG ivz arz iwz awz ∧ ivz 1111 = iwz 2 ∧ fTz iv ar ivz arz ∧ fUz iw aw iwz awz := by
    intro x iv2 ar2 iw2 aw2 ⟨c, w, hc, c1, c2, c3, c4, g, g1, g2, g3⟩ h1 h2
    have h0 : ¬ iw2 24 = 0 := by
      rw [c2]
      rcases hc with rfl | rfl | rfl | rfl <;> decide
    have hcut : ∃ iv3, mX3_cutTo (nI f0) iv2 ar2 la pA pB = some (0, iv3, ar2, la, pA, pB) ∧ iv3 303 = nI f0 ∧ ∀ k, k ≠ 303 → iv3 k = iv2 k := by
      unfold mX3_cutTo
      rw [if_neg (nI_pos (by omega)), g3]
      by_cases e : g ≤ f0
      · have : g = f0 := by omega
        subst this
        exact ⟨iv2, by rw [if_pos (nI_le (Nat.le_refl g) (by omega))], g3, fun _ _ => rfl⟩
      · exact ⟨va_up iv2 303 (nI f0), by rw [if_neg (nI_ge (show f0 < g by omega) (by omega))], rfl, fun k hk => va_up_ne _ _ hk⟩
    obtain ⟨iv3, k1, k2, k3⟩ := hcut
    refine ⟨c, va_up (va_up iv3 1111 w) 801 0, ar2, va_up (va_up iw2 0 0) 3 (nI f0), aw2, fun s => ?_, ?_, ⟨0, by omega, rfl, rfl, fun j hj => absurd hj (Nat.not_lt_zero j)⟩, ⟨f0, kd, lb, pt, hf, hGr, cG_cut hf hC h1 k2, rG_cut hf hR h2 rfl⟩, c4.symm, ⟨fun k a b c d e f g h => ?_, h1.2.1⟩, ⟨fun k a b c d e f => ?_, h2.2.1⟩⟩
    · unfold mX11_type_J41
      rw [if_pos rfl, k1, obce]
      unfold mX11_type_J58 mX8_faultPlace mX8_fault mX8_empty
      rw [obce, obce, obce, if_pos rfl, k3 805 (by decide), show (va_up iv3 1111 (iv2 805)) 804 = iv3 804 from rfl, k3 804 (by decide), c1, c3]
    · unfold mX12_type_J121
      rw [if_neg (show ¬ (va_up iw2 0 0) 24 = 0 from h0)]
      unfold mX12_type_J149
      rw [if_neg (show ¬ (va_up iw2 0 0) 24 = 0 from h0)]
      unfold mX12_type_J165
      rw [if_neg (show ¬ (va_up (va_up iw2 0 0) 3 (nI f0)) 24 = 0 from h0), show (va_up (va_up iw2 0 0) 3 (nI f0)) 24 = iw2 24 from rfl, c2]
    · rw [va_up_ne _ _ b, va_up_ne _ _ h, k3 k a, h1.1 k a c d e f g]
    · rw [va_up_ne _ _ c, va_up_ne _ _ a, h2.1 k c d e b f]
  rcases hE with ⟨x, iv2, ar2, iw2, aw2, a1, a2, a3, a4, a5⟩ | ⟨g, p2, kd2, lb2, lr2, pt2, iv2, ar2, iw2, aw2, a1, a2, a3, a4, a5, ⟨a6, a7, a8⟩, a9, a10⟩
  · obtain ⟨r, ivz, arz, iwz, awz, b1, b2, b3⟩ := fault x iv2 ar2 iw2 aw2 a3 (fTi a4) (fUi a5)
    refine ⟨r, ivz, arz, iwz, awz, ?_, ?_, b3⟩
    · rw [a1, obce, b1, b1]
      by_cases e : 200 < iv2 303
      · rw [if_pos e]
      · rw [if_neg e]
    · rw [a2]
      unfold mX12_type_J85
      obtain ⟨c, w, hc, _, h24, _⟩ := a3
      rw [if_neg (show ¬ iw2 24 = 0 by rw [h24]; rcases hc with rfl | rfl | rfl | rfl <;> decide)]
      exact b2
  · have a3' := a3
    obtain ⟨d1, d2, d3, d4, d5, d6, d7, d8⟩ := a3
    rw [a1, a2]
    unfold mX8_takeEnd mX12_type_J85
    rw [if_pos d7, d3, d4, d5, d6]
    by_cases e : p2 = n
    · subst e
      rw [if_pos (nI_le (Nat.le_refl p2) (by omega)), if_pos (nI_le (Nat.le_refl p2) (by omega)), obce, if_pos (Or.inr rfl), obce]
      by_cases eg : g ≤ 200
      · rw [if_neg (show ¬ (200 : Int32) < iv2 303 by rw [a4.1]; exact nI_nlt eg (by decide))]
        refine ⟨nI f0, va_up (va_up iv2 1111 m1) 801 0, ar2, va_up (va_up iw2 0 0) 3 (nI g), aw2, ?_, ?_, ⟨0, by omega, rfl, rfl, fun j hj => absurd hj (Nat.not_lt_zero j)⟩, ⟨g, kd2, lb2, pt2, eg, fun k hk => ?_, ⟨a4.1, fun k hk => ?_⟩, ⟨rfl, fun k hk => ?_⟩⟩, a8.symm, ⟨fun k a b c d e f g h => ?_, (fTi a9).2.1⟩, ⟨fun k a b c d e f => ?_, (fUi a10).2.1⟩⟩
        · unfold mX11_type_J41
          rw [if_neg (show ¬ (1 : Int32) = 0 by decide), if_neg (show ¬ (1 : Int32) = 0 by decide)]
          unfold mX11_type_J58 mX8_faultPlace mX8_fault mX8_empty
          rw [obce, obce, obce, if_neg (show ¬ (1 : Int32) = 0 by decide), if_neg (show ¬ (1 : Int32) = 0 by decide), a7]
        · unfold mX12_type_J121
          rw [if_pos (show (va_up iw2 0 0) 24 = 0 from d7), if_pos (show (va_up iw2 0 0) 3 ≤ 200 by rw [show (va_up iw2 0 0) 3 = iw2 3 from rfl, a4.2.1]; exact nI_le eg (by decide))]
          unfold mX12_type_J149
          rw [if_pos (show (va_up iw2 0 0) 24 = 0 from d7)]
          unfold mX12_type_J165
          rw [show (va_up iw2 0 0) 3 = nI g from a4.2.1, if_pos (show (va_up (va_up iw2 0 0) 3 (nI g)) 24 = 0 from d7)]
        · obtain ⟨⟨q1, q2, q3, q4, q5, q6⟩, q7, q8⟩ := a4.2.2.2 k hk
          obtain ⟨w1, w2, w3⟩ := q8 (fun f hf => (by cases hf))
          exact ⟨q1, q2, w2, w3, fun l hl hb => (q7 l hl hb).2.2⟩
        · obtain ⟨⟨q1, q2, q3, q4, q5, q6⟩, q7, q8⟩ := a4.2.2.2 k hk
          exact ⟨q3, q5, fun l hl hb => (q7 l hl hb).1⟩
        · obtain ⟨⟨q1, q2, q3, q4, q5, q6⟩, q7, q8⟩ := a4.2.2.2 k hk
          obtain ⟨w1, w2, w3⟩ := q8 (fun f hf => (by cases hf))
          exact ⟨q4, by rw [q6, w1], fun l hl hb => (q7 l hl hb).2.1⟩
        · rw [va_up_ne _ _ b, va_up_ne _ _ h, (fTi a9).1 k a c d e f g]
        · rw [va_up_ne _ _ c, va_up_ne _ _ a, (fUi a10).1 k c d e b f]
      · rw [if_pos (show (200 : Int32) < iv2 303 by rw [a4.1]; exact nI_lt (show 200 < g by omega) (by omega))]
        refine ⟨m3, va_up (va_up (va_up iv2 303 (nI f0)) 1111 m1) 801 0, ar2, va_up (va_up (va_up iw2 0 0) 24 m3) 3 (nI f0), aw2, ?_, ?_, ⟨0, by omega, rfl, rfl, fun j hj => absurd hj (Nat.not_lt_zero j)⟩, ⟨f0, kd, lb, pt, hf, hGr, cG_cut hf hC (fTi a9) rfl, rG_cut hf hR (fUi a10) rfl⟩, a8.symm, ⟨fun k a b c d e f g h => ?_, (fTi a9).2.1⟩, ⟨fun k a b c d e f => ?_, (fUi a10).2.1⟩⟩
        · unfold mX11_type_J41 mX3_cutTo
          rw [if_neg (show ¬ (1 : Int32) = 0 by decide), if_pos rfl, if_neg (nI_pos (by omega)), a4.1, if_neg (nI_ge (show f0 < g by omega) (by omega)), obce]
          unfold mX11_type_J58 mX8_faultPlace mX8_fault mX8_empty
          rw [obce, obce, obce, if_neg (show ¬ (1 : Int32) = 0 by decide), if_pos rfl, show (va_up iv2 303 (nI f0)) 805 = m1 from a7]
          rfl
        · unfold mX12_type_J121
          rw [if_pos (show (va_up iw2 0 0) 24 = 0 from d7), if_neg (show ¬ (va_up iw2 0 0) 3 ≤ 200 by rw [show (va_up iw2 0 0) 3 = iw2 3 from rfl, a4.2.1]; exact nI_ge (show 200 < g by omega) (by omega))]
          unfold mX12_type_J149
          rw [if_neg (show ¬ (va_up (va_up iw2 0 0) 24 (-3)) 24 = 0 from (show ¬ (-3 : Int32) = 0 by decide))]
          unfold mX12_type_J165
          rw [if_neg (show ¬ (va_up (va_up (va_up iw2 0 0) 24 (-3)) 3 (nI f0)) 24 = 0 from (show ¬ (-3 : Int32) = 0 by decide))]
          rfl
        · rw [va_up_ne _ _ b, va_up_ne _ _ h, va_up_ne _ _ a, (fTi a9).1 k a c d e f g]
        · rw [va_up_ne _ _ c, va_up_ne _ _ e, va_up_ne _ _ a, (fUi a10).1 k c d e b f]
    · have hlt : p2 < n := by omega
      rw [if_neg (nI_ge hlt (by omega)), if_neg (nI_ge hlt (by omega))]
      obtain ⟨r, ivz, arz, iwz, awz, b1, b2, b3⟩ := fault (nI f0) (va_up (va_up iv2 804 m14) 805 (nI p2)) ar2 (va_up (va_up iw2 24 m14) 2 (nI p2)) aw2 ⟨m14, nI p2, Or.inr (Or.inr (Or.inr rfl)), rfl, rfl, rfl, rfl, g, a4.2.2.1, a5, a4.1⟩ (fT_t (fTi a9) (fT_fail _ _ _ _ _)) (fU_t (fUi a10) (fU_fail _ _ _ _ _))
      refine ⟨r, ivz, arz, iwz, awz, ?_, ?_, b3⟩
      · unfold mX8_fail
        rw [obce, if_pos rfl, obce, if_pos (Or.inl rfl), obce]
        have e1 := b1 0
        have e2 := b1 1
        rw [show (-14 : Int32) = m14 from rfl, e1, e2]
        by_cases e : 200 < (va_up (va_up iv2 804 m14) 805 (nI p2)) 303
        · rw [if_pos e]
        · rw [if_neg e]
      · unfold mX12_fail
        rw [obe]
        rw [show va_up (va_up (va_up iw2 24 (-14)) 2 (nI p2)) 24 (-14) = va_up (va_up iw2 24 m14) 2 (nI p2) from funext fun k => ?_]
        · exact b2
        · by_cases q1 : k = 24
          · subst q1
            rfl
          · rw [va_up_ne _ _ q1]
            rfl
