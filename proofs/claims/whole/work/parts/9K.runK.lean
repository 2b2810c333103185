section
variable {g0 : Nat} {kd0 lb0 : Nat → Nat} {g : Nat} {kd lb : Nat → Nat} {pt : Nat → Nat → Nat} {m : Nat} {T : TT} {ty va τ : Nat → Nat} {vis : List Nat} {nv nc s : Nat} {pn : Int32} {fs : List (Nat × Int32 × Nat)} {k : Nat} {c : Int32} {iv : mI} {ar : mA} {la : mL} {pA pB : mA} {iw : mI} {aw : mA} {iv0 : mI} {ar0 : mA} {iw0 : mI} {aw0 : mA}
theorem v_has {w : Nat} (hw : w < nv) (hn : nv ≤ 2000) (h : iv 1005 = nI nv) : mX10_has (nI w) iv ar la pA pB = some (1, iv, ar, la, pA, pB) := by
  unfold mX10_has
  rw [if_neg (nI_pos (by omega)), h, if_neg (nI_ge hw (by omega))]
theorem v_has1 : mX10_has (-1) iv ar la pA pB = some (0, iv, ar, la, pA, pB) := by
  unfold mX10_has
  rw [if_pos (show (-1 : Int32) < 0 by decide)]
theorem c_setF {w : Nat} {x y : Int32} (hw : w < nv) (hn : nv ≤ 2000) (h : iv 1005 = nI nv) : mX10_setFunction (nI w) x y iv ar la pA pB = some (0, iv, au (au ar 1003 w x) 1004 w y, la, pA, pB) := by
  unfold mX10_setFunction
  rw [v_has hw hn h, obce, if_neg (show ¬ (1 : Int32) = 0 by decide), if_neg (by first | exact nI_in (by omega) (by omega) | exact nI_inn (by omega) (by omega)), if_neg (by first | exact nI_in (by omega) (by omega) | exact nI_inn (by omega) (by omega)), ncl (by omega)]
theorem r_setF {w : Nat} {c : Int32} (hw : w < 2000) (hk : k < 200) : mX12_finish_J160 (nI k) c (nI w) iw aw = some (nI w, iw, au (au aw 61 w (aw 43 (9 * k))) 62 w c) := by
  unfold mX12_finish_J160
  rw [if_neg (nI_pos (by omega)), show (9 : Int32) * nI k = nI (9 * k) by rw [show (9 : Int32) = nI 9 from rfl, nmul], if_neg (by first | exact nI_in (by omega) (by omega) | exact nI_inn (by omega) (by omega)), if_neg (by first | exact nI_in (by omega) (by omega) | exact nI_inn (by omega) (by omega)), if_neg (by first | exact nI_in (by omega) (by omega) | exact nI_inn (by omega) (by omega)), ncl (by omega), ncl (by omega)]
/-- a function is made -/
theorem d21 (hX : rCx g0 kd0 lb0 g kd lb pt m T ty va vis pA) (hP : fPt g kd lb pt m T ty va τ vis nv nc s m1 fs k c iv ar iw aw iv0 ar0 iw0 aw0) (h69 : aw 69 fs.length = m1) (e : tWd T k = 21) : fnO g kd lb pt m T ty va vis s fs iv0 ar0 la pA pB iw0 aw0 (mX4_begin (nI (tPl T k)) c iv ar la pA pB) (mX12_finish (nI fs.length) (nI k) iw aw) := by
  obtain ⟨w1, w2, w3, w4, w5, w6, w7, w8⟩ := b_word (la := la) (pB := pB) hX hP e
  obtain ⟨hkd, -, -⟩ := (hX.2.2.2.2 k hP.2.1.1).2.2.1.2.1 e
  have hnk : tNk T k = 1 := ((hX.1.2.2 k w4).1.1.2.2.1 (Or.inl e)).1
  obtain ⟨hm, ⟨k1, k2, k3⟩, ⟨p1, p2, p3, p4, p5⟩, hnc, f1, f2⟩ := hP
  have hv := hm.1.1.1
  have hty := (hX.2.2.2.2 k k1).2.1
  have h43 := ((hm.2.2.2.2.2 k w4).2 0 (by omega)).1
  rcases newV_both (K := 4) (x := 0) (ar := ar) (la := la) (pA := pA) (pB := pB) (aw := aw) hv.1 hv.2.1 hv.2.2 with ⟨hn, aw2, e1, e2, a1, a2, a3, a4, a5⟩ | ⟨hn, e1, e2⟩
  · have hB : mX4_begin (nI (tPl T k)) c iv ar la pA pB = some (0, va_up (va_up (va_up (va_up iv 1005 (nI (nv + 1))) 411 (-1)) 409 (-1)) 412 (nI nv), au (au (au (au (au (au ar 1000 nv (nI 4)) 1001 nv 0) 1003 nv (-1)) 1004 nv (-1)) 1003 nv (nI (tPl T k))) 1004 nv c, la, pA, pB) := by
      rw [bgn21 w1]
      unfold mX4_beginLambda
      rw [if_pos (show iv 411 = -1 from p4), show (4 : Int32) = nI 4 from rfl, e1, obce]
      unfold mX4_beginLambda_J24 mX4_give
      rw [c_setF (nv := nv + 1) (Nat.lt_succ_self _) (by omega) rfl, obce, obce, obce]
    have hR : mX12_finish (nI fs.length) (nI k) iw aw = some (nI nv, va_up (va_up iw 71 (nI fs.length)) 56 (nI (nv + 1)), au (au aw2 61 nv (aw2 43 (9 * k))) 62 nv c) := by
      rw [rfn21 w5 w3 w2, w8, h69, if_pos (show m1 < 0 by decide), w6, show (4 : Int32) = nI 4 from rfl, e2, obe, p3, r_setF hn w3]
    refine Or.inl ⟨fun w => if w = nv then ty k else τ w, nv + 1, nc, nv, _, _, _, _, hB, hR, mSt_new (pn2 := m1) hX hm hn hty (by omega) ⟨rfl, rfl, rfl, rfl⟩ ⟨rfl, rfl, rfl, rfl, rfl⟩ (fun r hr => ?_) (fun v hv => ?_) (fun r hr => ?_) (fun v hv => ?_) ?_ ?_ ?_ (fun l hl => ?_) (fun _ => Or.inr ⟨k, k1, e, rfl, ?_, ?_, ?_, ?_⟩) (fun q => by omega) (fun q => by omega), ⟨⟨rfl, rfl, rfl⟩, p2, Nat.lt_succ_self _, ?_⟩, ?_, ?_⟩
    · rw [au_ne _ (by omega), au_ne _ (by omega), au_ne _ (by omega), au_ne _ (by omega), au_ne _ (by omega), au_ne _ (by omega)]
    · simp [aur, show ¬ v = nv by omega]
    · rw [au_ne _ (by omega), au_ne _ (by omega), a1 r (by omega) (by omega) (by omega)]
    · have q1 : (au (au aw2 61 nv (aw2 43 (9 * k))) 62 nv c) 61 v = aw 61 v := by rw [au_ne _ (by decide), au_ni _ (by omega), a1 61 (by decide) (by decide) (by decide)]
      have q2 : (au (au aw2 61 nv (aw2 43 (9 * k))) 62 nv c) 62 v = aw 62 v := by rw [au_ni _ (by omega), au_ne _ (by decide), a1 62 (by decide) (by decide) (by decide)]
      rw [q1, q2, au_ne _ (by decide), au_ne _ (by decide), au_ne _ (by decide), au_ne _ (by decide), a2 v, a3 v, if_neg (by omega), if_neg (by omega)]
      refine ⟨rfl, rfl, rfl, rfl, fun l hl => ?_⟩
      rw [au_ne _ (by decide), au_ne _ (by decide)]
      exact a4 _ (by omega)
    · rw [hkd]
      simp [aur]
    · rw [hkd, au_ne _ (by decide), au_ne _ (by decide), a2, if_pos rfl]
    · rw [au_ne (k2 := 59) _ (by decide), au_ne (k2 := 59) _ (by decide), a3, if_pos rfl]
      simp [aur]
    · rw [au_ne (k2 := 60) _ (by decide), au_ne (k2 := 60) _ (by decide), a5 l hl, if_neg]
      rw [show (au (au (au (au (au (au ar 1000 nv (nI 4)) 1001 nv 0) 1003 nv (-1)) 1004 nv (-1)) 1003 nv (nI (tPl T k))) 1004 nv c) 1000 nv = nI 4 by simp [aur]]
      rintro (⟨q, -⟩ | ⟨q, -⟩)
      · exact absurd q (by decide)
      · exact absurd q (by decide)
    · rw [au_ne _ (by decide), au_self]
    · rw [au_ne _ (by decide), au_self, a1 43 (by decide) (by decide) (by decide)]
      exact h43
    · rw [au_self, au_self]
    · rw [au_self]
      exact k2
    · show exB kd lb pt T ty (if nv = nv then ty k else τ nv) fs
      rw [if_pos rfl]
      exact k3
    · exact fRc_t f1 ⟨fun x a b c => by rw [va_up_ne _ _ (by omega), va_up_ne _ _ (by omega), va_up_ne _ _ (by omega), va_up_ne _ _ (by omega)], fun x hx => by rw [au_ne _ (by omega), au_ne _ (by omega), au_ne _ (by omega), au_ne _ (by omega), au_ne _ (by omega), au_ne _ (by omega)]⟩
    · exact fRr_t f2 ⟨fun x hx => by rw [va_up_ne _ _ (by omega), va_up_ne _ _ (by omega)], fun x hx => by rw [au_ne _ (by omega), au_ne _ (by omega), a1 x (by omega) (by omega) (by omega)]⟩
  · have hB : mX4_begin (nI (tPl T k)) c iv ar la pA pB = some (0, va_up (va_up (va_up iv 411 (-1)) 409 (-1)) 412 (-1), ar, la, pA, pB) := by
      rw [bgn21 w1]
      unfold mX4_beginLambda
      rw [if_pos (show iv 411 = -1 from p4), show (4 : Int32) = nI 4 from rfl, e1, obce]
      unfold mX4_beginLambda_J24 mX4_give mX10_setFunction
      rw [v_has1, obce, if_pos rfl, obce, obce, obce]
    have hR : mX12_finish (nI fs.length) (nI k) iw aw = some (-1, va_up (va_up iw 71 (nI fs.length)) 72 m16, aw) := by
      rw [rfn21 w5 w3 w2, w8, h69, if_pos (show m1 < 0 by decide), w6, show (4 : Int32) = nI 4 from rfl, e2, obe]
      unfold mX12_finish_J160
      rw [if_pos (show (-1 : Int32) < 0 by decide)]
    refine Or.inr (Or.inr ⟨nv, _, _, _, _, _, hB, hR, rfl, rfl, p2, rfl, hm.1.1, ?_, ?_, ?_⟩)
    · show iv 408 = iw 57
      rw [hm.2.2.2.1.1]
      exact hm.2.2.2.1.2.1.symm
    · exact fRc_t f1 ⟨fun x a b c => by rw [va_up_ne _ _ (by omega), va_up_ne _ _ (by omega), va_up_ne _ _ (by omega)], fun _ _ => rfl⟩
    · exact fRr_t f2 ⟨fun x hx => by rw [va_up_ne _ _ (by omega), va_up_ne _ _ (by omega)], fun _ _ => rfl⟩
/-- the function that a value was to be -/
theorem d21b {v : Nat} (hX : rCx g0 kd0 lb0 g kd lb pt m T ty va vis pA) (hP : fPt g kd lb pt m T ty va τ vis nv nc s (nI v) fs k c iv ar iw aw iv0 ar0 iw0 aw0) (h69 : aw 69 fs.length = nI v) (hv : v < nv) (hτ : τ v = ty k) (e : tWd T k = 21) : fnO g kd lb pt m T ty va vis s fs iv0 ar0 la pA pB iw0 aw0 (mX4_begin (nI (tPl T k)) c iv ar la pA pB) (mX12_finish (nI fs.length) (nI k) iw aw) := by
  obtain ⟨w1, w2, w3, w4, w5, w6, w7, w8⟩ := b_word (la := la) (pB := pB) hX hP e
  have hnk : tNk T k = 1 := ((hX.1.2.2 k w4).1.1.2.2.1 (Or.inl e)).1
  obtain ⟨hm, ⟨k1, k2, k3⟩, ⟨p1, p2, p3, p4, p5⟩, hnc, f1, f2⟩ := hP
  obtain ⟨⟨⟨⟨v1, v2, v3⟩, v4⟩, ⟨c1, c2⟩, c3⟩, ⟨b3, b4⟩, ⟨o1, o2, o3⟩, ⟨s1, s2, s3, s4⟩, z1, z2⟩ := hm
  have h43 := ((z2 k w4).2 0 (by omega)).1
  have hB : mX4_begin (nI (tPl T k)) c iv ar la pA pB = some (0, va_up (va_up (va_up iv 411 (-1)) 409 (-1)) 412 (nI v), au (au ar 1003 v (nI (tPl T k))) 1004 v c, la, pA, pB) := by
    rw [bgn21 w1]
    unfold mX4_beginLambda
    rw [p4, if_neg (show ¬ nI v = -1 by rw [nm1ne (by omega)]; exact id)]
    unfold mX4_beginLambda_J24 mX4_give
    rw [c_setF (iv := va_up iv 411 (-1)) (nv := nv) hv v1 v2, obce, obce, obce]
  have hR : mX12_finish (nI fs.length) (nI k) iw aw = some (nI v, va_up iw 71 (nI fs.length), au (au aw 61 v (aw 43 (9 * k))) 62 v c) := by
    rw [rfn21 w5 w3 w2, w8, h69, if_neg (nI_pos (show v < 2147483648 by omega)), w6, p3, r_setF (by omega) w3]
  have hcell : ∀ i, i < nc → (au (au ar 1003 v (nI (tPl T k))) 1004 v c) 100 i = ar 100 i ∧ (au (au ar 1003 v (nI (tPl T k))) 1004 v c) 101 i = ar 101 i := fun i _ => ⟨rfl, rfl⟩
  refine Or.inl ⟨τ, nv, nc, v, _, _, _, _, hB, hR, ⟨⟨⟨⟨v1, v2, v3⟩, v4⟩, ⟨c1, c2⟩, c3⟩, ⟨fun w hw => vT_up (ar := ar) (aw := aw) (τ := τ) (pn := nI v) (pn2 := m1) b3 (Nat.le_refl _) (Nat.le_refl _) hcell (fun _ _ => rfl) (fun u hu => ⟨rfl, rfl, fun q => ?_, fun _ _ => rfl⟩) hw (fun q => Or.inr ?_), fO_up (ar := ar) (aw := aw) (τ := τ) (Nat.le_refl _) (Nat.le_refl _) hcell (fun _ _ => rfl) fs (fun i _ => ⟨rfl, rfl, rfl, rfl, rfl, rfl⟩) (fun i _ => rfl) (fun i _ => rfl) (fO_n9 hX.1 hX.2.2 fs b4) b4⟩, ⟨o1, rfl, o3⟩, ⟨s1, s2, s3, s4⟩, z1, z2⟩, ⟨⟨rfl, rfl, rfl⟩, p2, hv, by rw [hτ]; exact k3⟩, ?_, ?_⟩
  · have hne : u ≠ v := fun q2 => q (by rw [q2])
    rw [au_ne _ (by decide), au_ni _ hne, au_ni _ hne, au_ne _ (by decide), au_ne _ (by decide), au_ni _ hne, au_ni _ hne, au_ne _ (by decide)]
    exact ⟨rfl, rfl, rfl, rfl⟩
  · have hwv : w = v := (nI_eq (by omega) (by omega)).mp q
    subst hwv
    refine ⟨k, k1, e, hτ, ?_, ?_, ?_, ?_⟩
    · rw [au_ne _ (by decide), au_self]
    · rw [au_ne _ (by decide), au_self]
      exact h43
    · rw [au_self, au_self]
    · rw [au_self]
      exact eOK_up (Nat.le_refl _) (Nat.le_refl _) hcell (fun _ _ => rfl) _ _ k2
  · exact fRc_t f1 ⟨fun x a b c => by rw [va_up_ne _ _ (by omega), va_up_ne _ _ (by omega), va_up_ne _ _ (by omega)], fun x hx => by rw [au_ne _ (by omega), au_ne _ (by omega)]⟩
  · exact fRr_t f2 ⟨fun x hx => by rw [va_up_ne _ _ (by omega)], fun x hx => by rw [au_ne _ (by omega), au_ne _ (by omega)]⟩
end
