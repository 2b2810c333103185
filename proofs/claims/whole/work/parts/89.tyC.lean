theorem tRe_keep {m : Nat} {T : TT} {aw aw2 : mA} (h : ∀ j, j < 4 ∨ 21 < j → aw2 j = aw j) (hr : tRe m T aw) : tRe m T aw2 := by
  unfold tRe
  rw [h 32 (by decide), h 33 (by decide), h 34 (by decide), h 35 (by decide), h 38 (by decide), h 36 (by decide), h 37 (by decide)]
  exact hr
section
variable {g0 : Nat} {kd0 lb0 : Nat → Nat} {g : Nat} {kd lb : Nat → Nat} {pt : Nat → Nat → Nat} {m : Nat} {T : TT} {ty va : Nat → Nat} {k : Nat} {iv : mI} {ar : mA} {la : mL} {pA pB : mA} {iw : mI} {aw : mA}
theorem ty30 (h : kAll g0 kd0 lb0 g kd lb pt m T ty va k iv ar la pB iw aw) (e : tWd T k = 30) (b : Int32) : dOut g kd lb pt T ty va k iv ar pA pB iw aw (mX2_typeOf (nI (tPl T k)) iv ar la pA pB) (mX12_typeDone (nI k) b iw aw) := by
  obtain ⟨h1, h2, h3⟩ := hw_of (pA := pA) h e
  obtain ⟨⟨hA, hG0⟩, ⟨hcl, hre, hk⟩, ⟨hg, h24⟩, hkid, hsc, hbd⟩ := id h
  obtain ⟨hn, l, hl8, hf2⟩ := (hA.2.2 k hk).1.1.2.2.2.2.2.2.2.1 e
  obtain ⟨w1, w2⟩ := (hcl.2 k hk).1.2.1.2.1 e
  obtain ⟨t1, t2, t3⟩ := hkid 0 (by omega)
  have e0 : mX2_typeIn (nI (tPl T k)) 0 iv ar la pA pB = some (nI (ty (tIn T k 0)), iv, ar, la, pA, pB) := c_typeIn hA hcl hk (show 0 < tNk T k by omega) t2
  have r0 : mX12_typeInside (nI k) 0 iw aw = some (nI (ty (tIn T k 0)), iw, aw) := r_tin hA hre hk (show 0 < tNk T k by omega) t3
  have hwd : mX6_wordB (nI (tPl T k) + 1) iv ar la pA pB = some (nI l, iv, ar, la, pA, pB) := by
    have := c_word1 (iv := iv) (ar := ar) (la := la) (pA := pA) (pB := pB) (p := tPl T k) (d := 1) w1
    rw [w2, hf2] at this
    exact this
  obtain ⟨k1, k2, k3, k4, k5⟩ := hg.2.1 _ t1
  obtain ⟨x1, x2, x3⟩ := hg.2.2.1.2 _ t1
  obtain ⟨y1, y2, y3⟩ := hg.2.2.2.1.2 _ t1
  have hg200 := hg.1
  have hti := nI_in (c := ty (tIn T k 0)) (N := 400) (by omega) (by decide)
  have htn := nI_inn (a := ty (tIn T k 0)) (N := 400) (by omega) (by omega)
  have hkn := nI_inn (a := k) (N := 200) (by omega) (by omega)
  have hkind := c_kind4 (la := la) (pA := pA) (pB := pB) hg.2.2.1.1 (show g ≤ 400 by omega) t1 x1
  have a35 : aw 35 k = nI l := by rw [(hre k hk).1.2.2.2.1, hf2]
  have hpt := c_partOf (la := la) (pA := pA) (pB := pB) (k := ty (tIn T k 0)) (l := l) (show g ≤ 400 by omega) (fun k hk => (hg.2.1 k hk).2.1) hg.2.2.1 t1 (by omega)
  have e339 : ∀ s0 : Int32, mX12_typeDone_J339 (nI k) (nI (ty (tIn T k 0))) s0 iw aw = if kd (ty (tIn T k 0)) = 1 then some (nI (ty (tIn T k 0)), iw, aw) else if s0 = 0 then some (0, va_up (va_up iw 24 m15) 2 (nI (tPl T k)), aw) else some (aw 6 (8 * (ty (tIn T k 0)) + l), iw, aw) := by
    intro s0
    unfold mX12_typeDone_J339
    rw [if_neg hti, ncl (show ty (tIn T k 0) < 2147483648 by omega), y1]
    by_cases q1 : kd (ty (tIn T k 0)) = 1
    · rw [if_pos (show nI (kd (ty (tIn T k 0))) = 1 by rw [q1]; rfl), if_pos q1]
    · rw [if_neg (show ¬ nI (kd (ty (tIn T k 0))) = 1 from fun q => q1 ((nI_eq (b := 1) (by omega) (by decide)).mp q)), if_neg q1, r_mis hA.2.1 hre hk, obe, if_neg (nI_in (c := k) (N := 200) (by omega) (by decide)), ncl (show k < 2147483648 by omega), a35, r_partT (l := l) (by omega) hl8 rfl, obe]
  rw [tof30 h1, tdn30 h3 h2, e0, obce, hwd, obce, r0, obe, if_neg hti, ncl (show ty (tIn T k 0) < 2147483648 by omega), y1]
  unfold mX2_typeOfPick
  rw [hkind, obce]
  by_cases q1 : kd (ty (tIn T k 0)) = 1
  · rw [if_pos (show nI (kd (ty (tIn T k 0))) = 1 by rw [q1]; rfl), if_neg (show ¬ nI (kd (ty (tIn T k 0))) = 5 by rw [q1]; decide), e339, if_pos q1]
    exact dOut_ok h (fun _ _ => rfl) hg.2.2.2.2 (fun _ _ => rfl) t1 ((by unfold tyR; refine ⟨?_, ?_, ?_, ?_, ?_, ?_, ?_, ?_, ?_, ?_, ?_⟩ <;> intro hq <;> first | (exfalso; omega) | exact (Or.inl q1))) rfl rfl
  · rw [if_neg (show ¬ nI (kd (ty (tIn T k 0))) = 1 from fun q => q1 ((nI_eq (b := 1) (by omega) (by decide)).mp q)), hkind, obce]
    by_cases q5 : kd (ty (tIn T k 0)) = 5
    · rw [if_pos (show nI (kd (ty (tIn T k 0))) = 5 by rw [q5]; rfl), if_pos (show nI (kd (ty (tIn T k 0))) = 5 by rw [q5]; rfl), hpt, obce, if_neg htn, if_neg (nI_in (c := k) (N := 200) (by omega) (by decide)), ncl (show k < 2147483648 by omega), a35, y2]
      unfold mX2_typeOfPick_J39
      by_cases qb : (lb (ty (tIn T k 0))).testBit l = true
      · have u := k5 l hl8 qb
        rw [if_pos (show l < 8 ∧ (lb (ty (tIn T k 0))).testBit l = true from ⟨hl8, qb⟩), if_neg (show ¬ nI (pt (ty (tIn T k 0)) l) = -1 by rw [nm1ne (by omega)]; exact id), if_pos (show ((nI (lb (ty (tIn T k 0))) >>> (nI l &&& 31)) &&& 1) = 1 by rw [bit_get k2 hl8]; exact qb), e339, if_neg q1, if_neg (show ¬ (1 : Int32) = 0 by decide), y3 l hl8 qb]
        exact dOut_ok h (fun _ _ => rfl) hg.2.2.2.2 (fun _ _ => rfl) u ((by unfold tyR; refine ⟨?_, ?_, ?_, ?_, ?_, ?_, ?_, ?_, ?_, ?_, ?_⟩ <;> intro hq <;> first | (exfalso; omega) | exact (Or.inr ⟨l, hf2, hl8, q5, qb, rfl⟩))) rfl rfl
      · rw [if_neg (show ¬ (l < 8 ∧ (lb (ty (tIn T k 0))).testBit l = true) from fun hh => qb hh.2), if_pos (show m1 = -1 from rfl), if_neg (show ¬ ((nI (lb (ty (tIn T k 0))) >>> (nI l &&& 31)) &&& 1) = 1 by rw [bit_get k2 hl8]; exact qb), e339, if_neg q1, if_pos rfl]
        exact dOut_mis h (fun _ _ => rfl) hg.2.2.2.2 (fun _ _ => rfl) rfl rfl
    · rw [if_neg (show ¬ nI (kd (ty (tIn T k 0))) = 5 from fun q => q5 ((nI_eq (b := 5) (by omega) (by decide)).mp q)), if_neg (show ¬ nI (kd (ty (tIn T k 0))) = 5 from fun q => q5 ((nI_eq (b := 5) (by omega) (by decide)).mp q)), e339, if_neg q1, if_pos rfl]
      exact dOut_mis h (fun _ _ => rfl) hg.2.2.2.2 (fun _ _ => rfl) rfl rfl
theorem ty31 (h : kAll g0 kd0 lb0 g kd lb pt m T ty va k iv ar la pB iw aw) (e : tWd T k = 31) (b : Int32) : dOut g kd lb pt T ty va k iv ar pA pB iw aw (mX2_typeOf (nI (tPl T k)) iv ar la pA pB) (mX12_typeDone (nI k) b iw aw) := by
  obtain ⟨h1, h2, h3⟩ := hw_of (pA := pA) h e
  obtain ⟨⟨hA, hG0⟩, ⟨hcl, hre, hk⟩, ⟨hg, h24⟩, hkid, hsc, hbd⟩ := id h
  obtain ⟨hn, t, l, ht0, hkd6, hl8, hbit, hf1, hf2⟩ := (hA.2.2 k hk).1.1.2.2.2.2.2.2.2.2.1 e
  obtain ⟨w1, w2⟩ := (hcl.2 k hk).1.2.1.1 (by omega)
  obtain ⟨w3, w4⟩ := (hcl.2 k hk).1.2.1.2.2 e
  obtain ⟨t1, t2, t3⟩ := hkid 0 (by omega)
  obtain ⟨ht, hkt, hlt⟩ := hG0 t ht0
  rw [← hkt] at hkd6
  rw [← hlt] at hbit
  have e0 : mX2_typeIn (nI (tPl T k)) 0 iv ar la pA pB = some (nI (ty (tIn T k 0)), iv, ar, la, pA, pB) := c_typeIn hA hcl hk (show 0 < tNk T k by omega) t2
  have r0 : mX12_typeInside (nI k) 0 iw aw = some (nI (ty (tIn T k 0)), iw, aw) := r_tin hA hre hk (show 0 < tNk T k by omega) t3
  have hwd1 : mX6_wordB (nI (tPl T k) + 1) iv ar la pA pB = some (nI t, iv, ar, la, pA, pB) := by
    have := c_word1 (iv := iv) (ar := ar) (la := la) (pA := pA) (pB := pB) (p := tPl T k) (d := 1) w1
    rw [w2, hf1] at this
    exact this
  have hwd2 : mX6_wordB (nI (tPl T k) + 2) iv ar la pA pB = some (nI l, iv, ar, la, pA, pB) := by
    have := c_word1 (iv := iv) (ar := ar) (la := la) (pA := pA) (pB := pB) (p := tPl T k) (d := 2) w3
    rw [w4, hf2] at this
    exact this
  obtain ⟨k1, k2, k3, k4, k5⟩ := hg.2.1 _ ht
  obtain ⟨y1, y2, y3⟩ := hg.2.2.2.1.2 _ ht
  have hg200 := hg.1
  have a35 : aw 35 k = nI l := by rw [(hre k hk).1.2.2.2.1, hf2]
  have a34 : aw 34 k = nI t := by rw [(hre k hk).1.2.2.1, hf1]
  have hkn := nI_in (c := k) (N := 200) (by omega) (by decide)
  have hpt := c_partOf (la := la) (pA := pA) (pB := pB) (k := t) (l := l) (show g ≤ 400 by omega) (fun k hk => (hg.2.1 k hk).2.1) hg.2.2.1 ht (by omega)
  rw [if_pos (show l < 8 ∧ (lb t).testBit l = true from ⟨hl8, hbit⟩)] at hpt
  have u := k5 l hl8 hbit
  rw [tof31 h1, tdn31 h3 h2, hwd1, obce, hwd2, obce, e0, obce, r0, obe, if_neg hkn, if_neg hkn, ncl (show k < 2147483648 by omega), a34, a35, r_partT (l := l) (by omega) hl8 (y3 l hl8 hbit), obe]
  unfold mX2_typeOfTag
  rw [hpt, obce]
  obtain ⟨iv2, la2, aw2, f1, f2, f3, hbel⟩ := bel_both (pA := pA) h t1 u
  rcases hbel with ⟨g1, g2, g3⟩ | ⟨rs, g1, g2, g3⟩
  · rw [g1, obce, if_pos rfl, obce, g2, obe, if_neg (show ¬ (1 : Int32) = 0 by decide), if_neg (nI_inn (a := k) (N := 200) (by omega) (by omega)), show aw2 34 k = nI t by rw [f3 34 (by decide)]; exact a34]
    exact dOut_ok h f1 f2 f3 ht ((by unfold tyR; refine ⟨?_, ?_, ?_, ?_, ?_, ?_, ?_, ?_, ?_, ?_, ?_⟩ <;> intro hq <;> first | (exfalso; omega) | exact (⟨l, hf1, hf2, hl8, hkd6, hbit, g3⟩))) rfl rfl
  · rw [g2, obce, if_neg g1, obce, g3, obe, if_pos rfl, r_mis hA.2.1 (tRe_keep (fun j hj => f3 j (by omega)) hre) hk, obe]
    exact dOut_mis h f1 f2 f3 rfl rfl
theorem ty33 (h : kAll g0 kd0 lb0 g kd lb pt m T ty va k iv ar la pB iw aw) (e : tWd T k = 33) (b : Int32) : dOut g kd lb pt T ty va k iv ar pA pB iw aw (mX2_typeOf (nI (tPl T k)) iv ar la pA pB) (mX12_typeDone (nI k) b iw aw) := by
  obtain ⟨h1, h2, h3⟩ := hw_of (pA := pA) h e
  obtain ⟨⟨hA, hG0⟩, ⟨hcl, hre, hk⟩, ⟨hg, h24⟩, hkid, hsc, hbd⟩ := id h
  obtain ⟨hn, t, ht0, hf1⟩ := (hA.2.2 k hk).1.1.2.2.1 (Or.inr e)
  obtain ⟨w1, w2⟩ := (hcl.2 k hk).1.2.1.1 (by omega)
  obtain ⟨t1, t2, t3⟩ := hkid 0 (by omega)
  obtain ⟨ht, hkt, hlt⟩ := hG0 t ht0
  have e0 : mX2_typeIn (nI (tPl T k)) 0 iv ar la pA pB = some (nI (ty (tIn T k 0)), iv, ar, la, pA, pB) := c_typeIn hA hcl hk (show 0 < tNk T k by omega) t2
  have r0 : mX12_typeInside (nI k) 0 iw aw = some (nI (ty (tIn T k 0)), iw, aw) := r_tin hA hre hk (show 0 < tNk T k by omega) t3
  have hwd1 : mX6_wordB (nI (tPl T k) + 1) iv ar la pA pB = some (nI t, iv, ar, la, pA, pB) := by
    have := c_word1 (iv := iv) (ar := ar) (la := la) (pA := pA) (pB := pB) (p := tPl T k) (d := 1) w1
    rw [w2, hf1] at this
    exact this
  have a34 : aw 34 k = nI t := by rw [(hre k hk).1.2.2.1, hf1]
  have hkn := nI_in (c := k) (N := 200) (by omega) (by decide)
  rw [tof33 h1, tdn33 h3 h2, hwd1, obce, e0, obce, r0, obe, if_neg hkn, ncl (show k < 2147483648 by omega), a34]
  unfold mX2_typeOfItself
  obtain ⟨iv2, la2, aw2, f1, f2, f3, hbel⟩ := bel_both (pA := pA) h t1 ht
  rcases hbel with ⟨g1, g2, g3⟩ | ⟨rs, g1, g2, g3⟩
  · rw [g1, obce, if_pos rfl, obce, g2, obe, if_neg (show ¬ (1 : Int32) = 0 by decide), if_neg (nI_inn (a := k) (N := 200) (by omega) (by omega)), show aw2 34 k = nI t by rw [f3 34 (by decide)]; exact a34]
    exact dOut_ok h f1 f2 f3 ht ((by unfold tyR; refine ⟨?_, ?_, ?_, ?_, ?_, ?_, ?_, ?_, ?_, ?_, ?_⟩ <;> intro hq <;> first | (exfalso; omega) | exact (⟨hf1, g3⟩))) rfl rfl
  · rw [g2, obce, if_neg g1, obce, g3, obe, if_pos rfl, r_mis hA.2.1 (tRe_keep (fun j hj => f3 j (by omega)) hre) hk, obe]
    exact dOut_mis h f1 f2 f3 rfl rfl
end
