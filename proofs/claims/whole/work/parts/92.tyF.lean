theorem or_bit {L l l2 : Nat} : (L ||| 2 ^ l).testBit l2 = true ↔ (L.testBit l2 = true ∨ l = l2) := by
  rw [Nat.testBit_or, Nat.testBit_two_pow, Bool.or_eq_true_iff, decide_eq_true_eq]
section
variable {g0 : Nat} {kd0 lb0 : Nat → Nat} {g : Nat} {kd lb : Nat → Nat} {pt : Nat → Nat → Nat} {m : Nat} {T : TT} {ty va : Nat → Nat} {k : Nat} {iv : mI} {ar : mA} {la : mL} {pA pB : mA} {iw : mI} {aw : mA}
/-- the labels of a 32, one after the other -/
theorem labs_both {E : Nat} (hA : tAll g0 kd0 lb0 m T) (hcl : tCl m T pB) (hre : tRe m T aw) (hk : k < m) (hE : E + 1 = tNk T k) (hw : tWd T k = 32) (tl : Int32) : ∀ (d i L n1 n2 : Nat), E - i = d → i ≤ E → d < n1 → d < n2 → L < 256 → (∀ l, l < 8 → (L.testBit l = true ↔ ∃ j, j < i ∧ tLa T k j = l)) → ∃ L2, L2 < 256 ∧ (∀ l, l < 8 → (L2.testBit l = true ↔ ∃ j, j < E ∧ tLa T k j = l)) ∧ ∃ n1' n2', mX2_typeOfSort_L16 n1 (nI (tPl T k)) (nI E) (nI L) (nI i) iv ar la pA pB = mX2_typeOfSort_L16 (n1' + 1) (nI (tPl T k)) (nI E) (nI L2) (nI E) iv ar la pA pB ∧ mX12_typeTaken_L19 n2 (nI k) tl (nI L) (nI i) iw aw = mX12_typeTaken_L19 (n2' + 1) (nI k) tl (nI L2) (nI E) iw aw := by
  have h9 := hOK9 (hA.2.2 k hk).1.1
  have hk2 : k < 200 := Nat.lt_of_lt_of_le hk hA.2.1
  have hf1 := ((hA.2.2 k hk).1.1.2.2.2.2.2.2.2.2.2 hw).2.2
  rw [show tNk T k - 1 = E by omega] at hf1
  intro d
  induction d with
  | zero =>
    intro i L n1 n2 hd hi hn1 hn2 hL hB
    have : i = E := by omega
    subst this
    exact ⟨L, hL, hB, n1 - 1, n2 - 1, by rw [show n1 - 1 + 1 = n1 by omega], by rw [show n2 - 1 + 1 = n2 by omega]⟩
  | succ d ih =>
    intro i L n1 n2 hd hi hn1 hn2 hL hB
    obtain ⟨n1, rfl⟩ : ∃ x, n1 = x + 1 := ⟨n1 - 1, by omega⟩
    obtain ⟨n2, rfl⟩ : ∃ x, n2 = x + 1 := ⟨n2 - 1, by omega⟩
    have hiN : i < tNk T k := by omega
    have hld : tLd T k i := Or.inr ⟨hw, by omega⟩
    have hl8 := (((hA.2.2 k hk).2.2 i (by rw [tAll_mn hA hk]; exact hiN)).2.2.1 hld).1
    have h2 : 2 ^ tLa T k i < 256 := Nat.pow_lt_pow_right (m := tLa T k i) (n := 8) (by decide) hl8
    obtain ⟨L2, q1, q2, n1', n2', q3, q4⟩ := ih (i + 1) (L ||| 2 ^ tLa T k i) n1 n2 (by omega) (by omega) (by omega) (by omega) (Nat.or_lt_two_pow (n := 8) hL h2) (fun l hl => by
      rw [or_bit, hB l hl]
      constructor
      · rintro (⟨j, j1, j2⟩ | rfl)
        · exact ⟨j, by omega, j2⟩
        · exact ⟨i, by omega, rfl⟩
      · rintro ⟨j, j1, j2⟩
        by_cases ej : j = i
        · exact Or.inr (by rw [← j2, ej])
        · exact Or.inl ⟨j, by omega, j2⟩)
    refine ⟨L2, q1, q2, n1', n2', ?_, ?_⟩
    · rw [← q3]
      conv => lhs; rw [mX2_typeOfSort_L16]
      rw [if_neg (nI_ge (show i < E by omega) (by omega)), c_kid hA hcl hk hiN, obce, c_labelOf hA hcl hk hiN hld, obce, bit_1 hl8, nor_ hL h2, show nI i + 1 = nI (i + 1) from nadd _ 1]
    · rw [← q4]
      conv => lhs; rw [mX12_typeTaken_L19]
      rw [if_neg (by first | exact nI_in (by omega) (by omega) | exact nI_inn (by omega) (by omega)), ncl (by omega), (hre k hk).1.2.2.1, hf1, if_neg (nI_ge (show i < E by omega) (by omega)), show (9 : Int32) * nI k + nI i = nI (9 * k + i) by rw [show (9 : Int32) = nI 9 from rfl, nmul, nadd], if_neg (by first | exact nI_in (by omega) (by omega) | exact nI_inn (by omega) (by omega)), ncl (by omega), ((hre k hk).2 i (by rw [tAll_mn hA hk]; exact hiN)).2 hld, bit_1 hl8, nor_ hL h2, show nI i + 1 = nI (i + 1) from nadd _ 1]
theorem ty32 (h : kAll g0 kd0 lb0 g kd lb pt m T ty va k iv ar la pB iw aw) (e : tWd T k = 32) (b : Int32) : dOut g kd lb pt T ty va k iv ar pA pB iw aw (obc (mX2_typeOf (nI (tPl T k)) iv ar la pA pB) (fun r91 iv91 ar91 la91 pA91 pB91 => mX2_joinBranches (nI (tPl T k)) r91 iv91 ar91 la91 pA91 pB91)) (mX12_typeDone (nI k) b iw aw) := by
  obtain ⟨h1, h2, h3⟩ := hw_of (pA := pA) h e
  obtain ⟨⟨hA, hG0⟩, ⟨hcl, hre, hk⟩, ⟨hg, h24⟩, hkid, hsc, hbd⟩ := id h
  obtain ⟨F, hF, hFF⟩ : ∃ F, bigF = F + 2 ∧ 5000 < F := ⟨999998, rfl, by omega⟩
  obtain ⟨hn1, hn9, hf1⟩ := (hA.2.2 k hk).1.1.2.2.2.2.2.2.2.2.2 e
  obtain ⟨E, hE⟩ : ∃ E, E + 1 = tNk T k := ⟨tNk T k - 1, by omega⟩
  rw [show tNk T k - 1 = E by omega] at hf1
  obtain ⟨t1, t2, t3⟩ := hkid E (by omega)
  have hg200 := hg.1
  have hE1 : nI (tNk T k) - 1 = nI E := by rw [← hE, nsub1]
  have a34 : aw 34 k = nI E := by rw [(hre k hk).1.2.2.1, hf1]
  have a38 : aw 38 k = nI (tNk T k) := by rw [(hre k hk).1.2.2.2.2, tAll_mn hA hk]
  have hti := nI_in (c := ty (tIn T k E)) (N := 400) (by omega) (by decide)
  have htn := nI_inn (a := ty (tIn T k E)) (N := 400) (by omega) (by omega)
  have hkn := nI_in (c := k) (N := 200) (by omega) (by decide)
  have hkm := nI_inn (a := k) (N := 200) (by omega) (by omega)
  obtain ⟨x1, x2, x3⟩ := hg.2.2.1.2 _ t1
  obtain ⟨y1, y2, y3⟩ := hg.2.2.2.1.2 _ t1
  obtain ⟨k1, k2, k3, k4, k5⟩ := hg.2.1 _ t1
  have eE : mX2_typeIn (nI (tPl T k)) (nI E) iv ar la pA pB = some (nI (ty (tIn T k E)), iv, ar, la, pA, pB) := c_typeIn hA hcl hk (show E < tNk T k by omega) t2
  have rE : mX12_typeInside (nI k) (nI E) iw aw = some (nI (ty (tIn T k E)), iw, aw) := r_tin hA hre hk (show E < tNk T k by omega) t3
  obtain ⟨L, L1, L2, n1', n2', L3, L4⟩ := labs_both (iv := iv) (ar := ar) (la := la) (pA := pA) (iw := iw) hA hcl hre hk hE e (nI (ty (tIn T k E))) E 0 0 bigF bigF (by omega) (Nat.zero_le E) (by omega) (by omega) (by omega) (fun l hl => by
    rw [Nat.zero_testBit]
    constructor
    · intro hh; cases hh
    · rintro ⟨j, j1, _⟩; exact absurd j1 (Nat.not_lt_zero j))
  have c0 : mX2_isOrNothing (nI (ty (tIn T k E))) 6 iv ar la pA pB = _ := c_isOr (K := 6) hg.2.2.1.1 hg.1 t1 x1 k1 (by omega)
  have cl : mX3_labelsOf (nI (ty (tIn T k E))) iv ar la pA pB = some (nI (lb (ty (tIn T k E))), iv, ar, la, pA, pB) := by
    unfold mX3_labelsOf
    rw [if_neg (nI_pos (by omega)), hg.2.2.1.1, if_neg (nI_ge t1 (by omega)), if_neg hti, ncl (by omega), x2]
  have ej : ∀ (r : Int32) (iv2 : mI) (ar2 : mA), mX2_joinBranches (nI (tPl T k)) r iv2 ar2 la pA pB = mX2_joinBranches_L61 bigF (nI (tPl T k)) (nI E) r 1 iv2 ar2 la pA pB := by
    intro r iv2 ar2
    have hw2 : mX6_wordB (nI (tPl T k)) iv2 ar2 la pA pB = some (nI 32, iv2, ar2, la, pA, pB) := by rw [← e]; exact c_wordB hA hcl hk
    unfold mX2_joinBranches
    rw [hw2, obce, if_neg (show ¬ nI 32 = 28 by decide)]
    unfold mX2_joinBranches_J20
    rw [if_neg (show ¬ nI 32 = 28 by decide), if_pos (show nI 32 = 32 from rfl), c_count hA hcl hk, obce, hE1]
  have ejn : ∀ (r : Int32) (iv2 : mI) (ar2 : mA), r < 0 → mX2_joinBranches (nI (tPl T k)) r iv2 ar2 la pA pB = some (r, iv2, ar2, la, pA, pB) := by
    intro r iv2 ar2 hr
    rw [ej, hF, mX2_joinBranches_L61]
    by_cases q : nI E ≤ 1
    · rw [if_pos q]
    · rw [if_neg q, if_pos hr]
  rw [tof32 h1, tdn32 h3 h2, obc_id, ob_id]
  unfold mX2_typeOfSort mX12_typeTaken
  rw [c_count hA hcl hk, obce, hE1, if_neg hkn, ncl (show k < 2147483648 by omega), a38, hE1, rE, obe, show (0 : Int32) = nI 0 from rfl, L3, L4]
  -- what comes of the sorted one's type
  have bad : dOut g kd lb pt T ty va k iv ar pA pB iw aw (obc (some (-15, iv, ar, la, pA, pB)) (fun r91 iv91 ar91 la91 pA91 pB91 => mX2_joinBranches (nI (tPl T k)) r91 iv91 ar91 la91 pA91 pB91)) (ob (mX12_misfit (nI k) iw aw) (fun r89 iv89 ar89 => some (r89, iv89, ar89))) := by
    rw [r_mis hA.2.1 hre hk, obe, obce, ejn _ _ _ (show (-15 : Int32) < 0 by decide)]
    exact dOut_mis h (fun _ _ => rfl) hg.2.2.2.2 (fun _ _ => rfl) rfl rfl
  have good : (kd (ty (tIn T k (tNk T k - 1))) = 1 ∨ (kd (ty (tIn T k (tNk T k - 1))) = 6 ∧ ∀ l, l < 8 → (lb (ty (tIn T k (tNk T k - 1)))).testBit l = true → ∃ i, i + 1 < tNk T k ∧ tLa T k i = l)) → dOut g kd lb pt T ty va k iv ar pA pB iw aw (obc (if nI E = 0 then obc (mX3_make 1 iv ar la pA pB) (fun r97 iv97 ar97 la97 pA97 pB97 => some (r97, iv97, ar97, la97, pA97, pB97)) else obc (mX2_typeIn (nI (tPl T k)) 0 iv ar la pA pB) (fun r106 iv106 ar106 la106 pA106 pB106 => some (r106, iv106, ar106, la106, pA106, pB106))) (fun r91 iv91 ar91 la91 pA91 pB91 => mX2_joinBranches (nI (tPl T k)) r91 iv91 ar91 la91 pA91 pB91)) (mX12_typeTaken_J93 (nI k) iw aw) := by
    intro hgood
    unfold mX12_typeTaken_J93
    rw [if_neg hkn, ncl (show k < 2147483648 by omega), a34]
    by_cases e0 : E = 0
    · rw [if_pos (show nI E = 0 by rw [e0]; rfl), if_pos (show nI E = 0 by rw [e0]; rfl), obc_id, ob_id]
      obtain ⟨c, r, g2, kd2, lb2, pt2, iv2, ar2, iw2, aw2, a1, a2, a3, a4, a5, a6, a7, a8⟩ := leaf_both (pA := pA) (pB := pB) (K := 1) hg h24 (by omega)
      have a1' : mX3_make 1 iv ar la pA pB = some (c, iv2, ar2, la, pA, pB) := a1
      have a2' : mX12_more 1 iw aw = some (r, iw2, aw2) := a2
      have hj : mX2_joinBranches (nI (tPl T k)) c iv2 ar2 la pA pB = some (c, iv2, ar2, la, pA, pB) := by
        rw [ej, hF, mX2_joinBranches_L61]
        rw [if_pos (show nI E ≤ 1 by rw [e0]; decide)]
      rw [a1', a2', obce, hj]
      refine ⟨c, r, g2, kd2, lb2, pt2, iv2, ar2, la, iw2, aw2, rfl, rfl, a3, a4, a5, a6, ?_⟩
      have hty1 : kd2 (ty (tIn T k (tNk T k - 1))) = kd (ty (tIn T k (tNk T k - 1))) ∧ lb2 (ty (tIn T k (tNk T k - 1))) = lb (ty (tIn T k (tNk T k - 1))) := by
        rw [show tNk T k - 1 = E by omega]
        exact ⟨(a3.2.2 _ t1).1, (a3.2.2 _ t1).2.1⟩
      rcases a8 with ⟨b1, b2, b3, b4, b5⟩ | ⟨b1, b2, b3⟩
      · refine Or.inl ⟨g, b3, b1, b2, b4, a7, (by unfold tyR; refine ⟨?_, ?_, ?_, ?_, ?_, ?_, ?_, ?_, ?_, ?_, ?_⟩ <;> intro hq <;> first | (exfalso; omega) | exact (⟨by rw [hty1.1, hty1.2]; exact hgood, fun i hi => by omega⟩))⟩
      · exact Or.inr (Or.inr ⟨b1, b3, a7⟩)
    · obtain ⟨s1, s2, s3⟩ := hkid 0 (by omega)
      have e0' : mX2_typeIn (nI (tPl T k)) 0 iv ar la pA pB = some (nI (ty (tIn T k 0)), iv, ar, la, pA, pB) := c_typeIn hA hcl hk (show 0 < tNk T k by omega) s2
      have r0' : mX12_typeInside (nI k) 0 iw aw = some (nI (ty (tIn T k 0)), iw, aw) := r_tin hA hre hk (show 0 < tNk T k by omega) s3
      rw [if_neg (show ¬ nI E = 0 from fun q => e0 ((nI_eq (b := 0) (by omega) (by decide)).mp q)), if_neg (show ¬ nI E = 0 from fun q => e0 ((nI_eq (b := 0) (by omega) (by decide)).mp q)), obc_id, e0', obce, ej, r0', obe]
      obtain ⟨c, r, g2, kd2, lb2, pt2, iv2, ar2, iw2, aw2, q1, q2, q3, q4, q5, q6, q7, q8⟩ := chain_both (ty := ty) (la := la) (pA := pA) hA hcl hk hE e 9 1 g kd lb pt (ty (tIn T k 0)) iv ar iw aw bigF bigF (by omega) (by omega) (by omega) (by omega) hg h24 hre hkid s1 (fun j hj _ => by rw [show j = 0 by omega]; exact blw_refl _)
      have q1' : mX2_joinBranches_L61 bigF (nI (tPl T k)) (nI E) (nI (ty (tIn T k 0))) 1 iv ar la pA pB = some (c, iv2, ar2, la, pA, pB) := q1
      have q2' : mX12_typeTaken_L119 bigF (nI k) (nI (ty (tIn T k 0))) 1 iw aw = some (r, iw2, aw2) := q2
      rw [q1', q2']
      refine ⟨c, r, g2, kd2, lb2, pt2, iv2, ar2, la, iw2, aw2, rfl, rfl, q3, q4, q5, q6, ?_⟩
      have hty1 : kd2 (ty (tIn T k (tNk T k - 1))) = kd (ty (tIn T k (tNk T k - 1))) ∧ lb2 (ty (tIn T k (tNk T k - 1))) = lb (ty (tIn T k (tNk T k - 1))) := by
        rw [show tNk T k - 1 = E by omega]
        exact ⟨(q3.2.2 _ t1).1, (q3.2.2 _ t1).2.1⟩
      rcases q8 with ⟨t, k1, k2, k3, k4, k5⟩ | ⟨k1, k2⟩
      · exact Or.inl ⟨t, k1, k2, k3, k4, q7, (by unfold tyR; refine ⟨?_, ?_, ?_, ?_, ?_, ?_, ?_, ?_, ?_, ?_, ?_⟩ <;> intro hq <;> first | (exfalso; omega) | exact (⟨by rw [hty1.1, hty1.2]; exact hgood, fun i hi => k5 i (by omega)⟩))⟩
      · exact Or.inr (Or.inr ⟨k1, k2, q7⟩)
  rw [mX2_typeOfSort_L16, mX12_typeTaken_L19]
  rw [if_pos (nI_le (Nat.le_refl E) (by omega)), eE, obce, c0, obce, if_neg hkn, ncl (show k < 2147483648 by omega), a34, if_pos (nI_le (Nat.le_refl E) (by omega)), if_neg hti, ncl (show ty (tIn T k E) < 2147483648 by omega), y1, y2, cl]
  have sub : (lb (ty (tIn T k E)) &&& L = lb (ty (tIn T k E))) → ∀ l, l < 8 → (lb (ty (tIn T k E))).testBit l = true → ∃ i, i + 1 < tNk T k ∧ tLa T k i = l := fun hs l hl hb => by
    rw [← hs, Nat.testBit_and] at hb
    obtain ⟨j, j1, j2⟩ := (L2 l hl).mp (Bool.and_eq_true_iff.mp hb).2
    exact ⟨j, by omega, j2⟩
  by_cases q1 : kd (ty (tIn T k E)) = 1
  · have l0 := k3 (by omega)
    rw [if_pos (show kd (ty (tIn T k E)) = 6 ∨ kd (ty (tIn T k E)) = 1 from Or.inr q1), if_neg (show ¬ (1 : Int32) = 0 by decide), obce, if_pos (show (nI (lb (ty (tIn T k E))) &&& (nI L ^^^ (-1))) = 0 by rw [nmask k2 L1, l0]; exact Nat.zero_and L), if_pos (show nI (kd (ty (tIn T k E))) = 1 by rw [q1]; rfl)]
    exact good (Or.inl (by rw [show tNk T k - 1 = E by omega]; exact q1))
  · by_cases q6 : kd (ty (tIn T k E)) = 6
    · rw [if_pos (show kd (ty (tIn T k E)) = 6 ∨ kd (ty (tIn T k E)) = 1 from Or.inl q6), if_neg (show ¬ (1 : Int32) = 0 by decide), obce, if_neg (show ¬ nI (kd (ty (tIn T k E))) = 1 from fun q => q1 ((nI_eq (b := 1) (by omega) (by decide)).mp q)), if_neg htn, if_pos (show nI (kd (ty (tIn T k E))) = 6 by rw [q6]; rfl), if_neg htn]
      by_cases qs : lb (ty (tIn T k E)) &&& L = lb (ty (tIn T k E))
      · rw [if_pos (show (nI (lb (ty (tIn T k E))) &&& (nI L ^^^ (-1))) = 0 by rw [nmask k2 L1]; exact qs), if_pos (show (nI (lb (ty (tIn T k E))) &&& (nI L ^^^ (-1))) = 0 by rw [nmask k2 L1]; exact qs)]
        exact good (Or.inr (by rw [show tNk T k - 1 = E by omega]; exact ⟨q6, sub qs⟩))
      · rw [if_neg (show ¬ (nI (lb (ty (tIn T k E))) &&& (nI L ^^^ (-1))) = 0 by rw [nmask k2 L1]; exact qs), if_neg (show ¬ (nI (lb (ty (tIn T k E))) &&& (nI L ^^^ (-1))) = 0 by rw [nmask k2 L1]; exact qs)]
        exact bad
    · rw [if_neg (show ¬ (kd (ty (tIn T k E)) = 6 ∨ kd (ty (tIn T k E)) = 1) by omega), if_pos (show (0 : Int32) = 0 from rfl), if_neg (show ¬ nI (kd (ty (tIn T k E))) = 1 from fun q => q1 ((nI_eq (b := 1) (by omega) (by decide)).mp q)), if_neg htn, if_neg (show ¬ nI (kd (ty (tIn T k E))) = 6 from fun q => q6 ((nI_eq (b := 6) (by omega) (by decide)).mp q))]
      exact bad
end
