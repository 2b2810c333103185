section
variable {g0 : Nat} {kd0 lb0 : Nat → Nat} {pt0 : Nat → Nat → Nat} {g : Nat} {kd lb : Nat → Nat} {pt : Nat → Nat → Nat} {m : Nat} {T : TT} {ty va nxf : Nat → Nat} {vis st : List Nat} {k : Nat} {iv : mI} {ar : mA} {la : mL} {pA pB : mA} {iw : mI} {aw : mA}
/-- the next term of a term -/
theorem pushY (h : yAll g0 kd0 lb0 pt0 g kd lb pt m T ty va nxf vis (k :: st) iv ar la pB iw aw) (hn : nxf k < tNk T k) {t n n2 : Nat} (ht : t ≤ 400) (l2 : Int32) :
    (∃ (c : Int32) (g2 : Nat) (kd2 lb2 : Nat → Nat) (pt2 : Nat → Nat → Nat) (va2 nxf2 : Nat → Nat) (iv2 : mI) (ar2 : mA) (iw2 : mI) (aw2 : mA), yAll g0 kd0 lb0 pt0 g2 kd2 lb2 pt2 m T ty va2 nxf2 (tKt T k (nxf k) :: vis) (tKt T k (nxf k) :: k :: st) iv2 ar2 la pB iw2 aw2 ∧ mX2_check_L24 (n + 1) l2 (nI t) iv ar la pA pB = mX2_check_L24 n c (nI (t + 1)) iv2 ar2 la pA pB ∧ mX12_typeTerms_L11 (n2 + 2) iw aw = mX12_typeTerms_L11 (n2 + 1) iw2 aw2 ∧ fYc iv ar iv2 ar2 ∧ fYr iw aw iw2 aw2) ∨
    (∃ (c : Int32) (iv2 : mI) (ar2 : mA) (iw2 : mI) (aw2 : mA), mX2_check_L24 (n + 1) l2 (nI t) iv ar la pA pB = some (c, iv2, ar2, la, pA, pB) ∧ mX12_typeTerms_L11 (n2 + 2) iw aw = some (0, iw2, aw2) ∧ yBad g0 kd0 lb0 pt0 c iv2 ar2 la iw2 aw2 ∧ fYc iv ar iv2 ar2 ∧ fYr iw aw iw2 aw2) := by
  obtain ⟨⟨hA, hgr, hcl, hre⟩, ⟨hg, h24, h2⟩, ⟨hV, hnd, h0⟩, ⟨⟨⟨a1, a2⟩, ⟨b1, b2, b3⟩, ⟨c1, c2⟩, ⟨d1, d2, d3⟩⟩, hS⟩, o1, o2⟩ := h
  rw [List.length_cons] at o1 o2
  have hk := (hV k d1).1.1
  have hk2 : k < 200 := Nat.lt_of_lt_of_le hk hA.2.1
  have hm200 := hA.2.1
  have hin := tKt_in hA hk hn
  have hh := hin.2.1
  have hL : st.length + 1 < 200 := by omega
  have hp := (hA.2.2 k hk).1.2.2
  have hph := (hA.2.2 _ hh).1.2.2
  have h9 := hOK9 (hA.2.2 k hk).1.1
  have hsl := (hA.2.2 k hk).1.2.1
  have a38 : aw 38 k = nI (tNk T k) := by rw [(hre k hk).1.2.2.2.2, tAll_mn hA hk]
  -- it is a new one
  have hnew : tKt T k (nxf k) ∉ vis := fun hm => by
    obtain ⟨-, -, e, -⟩ := (hV _ hm).1
    rcases e with e | ⟨-, j, j1, j2⟩
    · omega
    · rw [hin.2.2.1] at j1 j2
      have i1 := (tKt_in hA hk (show j < tNk T k by omega)).2.2.2
      have i2 := hin.2.2.2
      rw [j2] at i2
      have := tTp_inj (show j < tNk T k by omega) hn (i1.symm.trans i2)
      omega
  have hscH : tSc T (tKt T k (nxf k)) = tNs T k (tTp T k (nxf k)) (tKt T k (nxf k)) := ((hA.2.2 k hk).2.2 (tTp T k (nxf k)) (by rw [tAll_mn hA hk]; exact tTp_lt hA hk hn)).2.1
  have hlast : tWd T k = 32 → 0 < nxf k → tIn T k (tNk T k - 1) ∈ vis ∧ tIn T k (tNk T k - 1) ∉ k :: st ∧ tIn T k (tNk T k - 1) ≠ tKt T k (nxf k) := fun e32 hj => by
    have e0 : tKt T k 0 = tIn T k (tNk T k - 1) := by unfold tKt tTp; rw [if_pos e32, if_pos rfl]
    have hm := (hV k d1).1.2.2.2.1 0 hj
    rw [e0] at hm
    refine ⟨hm, fun hs => ?_, fun e => hnew (by rw [← e]; exact hm)⟩
    have hlt := (tKt_in hA hk (show 0 < tNk T k by omega)).1
    rw [e0] at hlt
    rcases List.mem_cons.mp hs with e | hs
    · omega
    · have := (d3 _ hs).1
      omega
  have hlast2 : tWd T k = 32 → 0 < nxf k → ty (tIn T k (tNk T k - 1)) < g ∧ ar 204 (tPl T (tIn T k (tNk T k - 1))) = nI (ty (tIn T k (tNk T k - 1))) ∧ (au aw 51 st.length (nI (nxf k + 1))) 54 (tIn T k (tNk T k - 1)) = nI (ty (tIn T k (tNk T k - 1))) := fun e32 hj => by
    obtain ⟨z1, z2, -⟩ := hlast e32 hj
    obtain ⟨-, w2, w3, w4, -⟩ := (hV _ z1).2.1 z2
    exact ⟨w2, w3, w4⟩
  have hre1 : tRe m T (au aw 51 st.length (nI (nxf k + 1))) := hre
  have hg1 : gAll g kd lb pt iv ar la iw (au aw 51 st.length (nI (nxf k + 1))) := ⟨hg.1, hg.2.1, hg.2.2.1, ⟨hg.2.2.2.1.1, hg.2.2.2.1.2⟩, hg.2.2.2.2⟩
  obtain ⟨c, r, g2, kd2, lb2, pt2, iv2, ar2, iw2, aw2, q1, q2, q3, q4, q5, q6, q7, q8⟩ := bind_both (ty := ty) (pA := pA) hA (fun t ht => ⟨Nat.lt_of_lt_of_le ht hgr.1, (hgr.2.2 t ht).1, (hgr.2.2 t ht).2.1⟩) hcl hre1 hk hg1 h24 hn hlast2
  have h208 : iv2 208 = nI (st.length + 1) := by rw [q5.1 208 (by decide) (by decide) (by decide) (by decide)]; exact o1
  have h53 : iw2 53 = nI (st.length + 1) := by rw [q6.1 53 (by decide) (by decide) (by decide) (by decide) (by decide)]; exact o2
  have a207 : (au ar2 205 (tPl T (tKt T k (nxf k))) c) 207 st.length = nI (nxf k) := by
    rw [au_ne _ (by decide), q5.2 207 (by decide) (by decide) (by decide) (by decide) (by decide) (by decide)]
    exact a2
  have eC : ∀ n, mX2_check_L24 (n + 1) l2 (nI t) iv ar la pA pB = mX2_check_J141 (mX2_check_L24 n) c (nI t) (va_up iv2 208 (nI (st.length + 2))) (au (au (au (au ar2 205 (tPl T (tKt T k (nxf k))) c) 207 st.length (nI (nxf k + 1))) 206 (st.length + 1) (nI (tPl T (tKt T k (nxf k))))) 207 (st.length + 1) 0) la pA pB := by
    intro n
    conv => lhs; rw [mX2_check_L24]
    rw [o1, if_neg (show ¬ nI (st.length + 1) ≤ (0 : Int32) from nI_ge (show 0 < st.length + 1 by omega) (by omega)), if_neg (show ¬ (400 : Int32) < nI t from nI_nlt ht (by decide)), nsub1, if_neg (by first | exact nI_in (by omega) (by omega) | exact nI_inn (by omega) (by omega)), if_neg (by first | exact nI_in (by omega) (by omega) | exact nI_inn (by omega) (by omega)), ncl (by omega), a1, a2, c_kidT hA hcl hk (by omega), obce, if_pos hn, if_neg (show ¬ nI (tPl T (tKt T k (nxf k))) = -1 by rw [nm1ne (by omega)]; exact id), if_neg (by first | exact nI_in (by omega) (by omega) | exact nI_inn (by omega) (by omega)), a2, q1, obce, if_neg (by first | exact nI_in (by omega) (by omega) | exact nI_inn (by omega) (by omega)), if_neg (by first | exact nI_in (by omega) (by omega) | exact nI_inn (by omega) (by omega)), a207, show nI (nxf k) + 1 = nI (nxf k + 1) from nadd _ 1]
    unfold mX2_push
    rw [h208, if_neg (show ¬ (200 : Int32) ≤ nI (st.length + 1) from nI_ge hL (by decide)), if_neg (by first | exact nI_in (by omega) (by omega) | exact nI_inn (by omega) (by omega)), if_neg (by first | exact nI_in (by omega) (by omega) | exact nI_inn (by omega) (by omega)), ncl (by omega), obce, show nI (st.length + 1) + 1 = nI (st.length + 2) from nadd _ 1]
  have a52 : (au aw 51 st.length (nI (nxf k + 1))) 52 st.length = nI (tSc T k).length := b3
  have eR : ∀ n2, mX12_typeTerms_L11 (n2 + 1) iw aw = if r < 0 then mX12_typeTerms_J99 (mX12_typeTerms_L11 n2) (nI k) (nI (nxf k)) (nI (tSc T k).length) iw2 aw2 else mX12_typeTerms_J99 (mX12_typeTerms_L11 n2) (nI k) (nI (nxf k)) (nI ((tSc T k).length + 1)) iw2 (au aw2 55 (tSc T k).length r) := by
    intro n2
    conv => lhs; rw [mX12_typeTerms_L11]
    rw [o2, if_neg (show ¬ nI (st.length + 1) ≤ (0 : Int32) from nI_ge (show 0 < st.length + 1 by omega) (by omega)), if_pos h24, nsub1, if_neg (by first | exact nI_in (by omega) (by omega) | exact nI_inn (by omega) (by omega)), if_neg (by first | exact nI_in (by omega) (by omega) | exact nI_inn (by omega) (by omega)), ncl (by omega), b1, if_neg (by first | exact nI_in (by omega) (by omega) | exact nI_inn (by omega) (by omega)), ncl (show k < 2147483648 by omega), a38, b2, if_neg (nI_ge hn (by omega)), if_neg (by first | exact nI_in (by omega) (by omega) | exact nI_inn (by omega) (by omega)), if_neg (by first | exact nI_in (by omega) (by omega) | exact nI_inn (by omega) (by omega)), if_neg (by first | exact nI_in (by omega) (by omega) | exact nI_inn (by omega) (by omega)), show nI (nxf k) + 1 = nI (nxf k + 1) from nadd _ 1, q2, obe, a52]
    by_cases e : r < 0
    · rw [if_pos e, if_pos e]
    · rw [if_neg e, if_neg e, if_neg (by first | exact nI_in (by omega) (by omega) | exact nI_inn (by omega) (by omega)), ncl (by omega), show nI (tSc T k).length + 1 = nI ((tSc T k).length + 1) from nadd _ 1]
  have e99 : ∀ (n2 : Nat) (b : Nat) (aw3 : mA), iw2 24 = 0 → (∀ x, x = 32 ∨ x = 36 ∨ x = 38 → aw3 x = aw2 x) → mX12_typeTerms_J99 (mX12_typeTerms_L11 n2) (nI k) (nI (nxf k)) (nI b) iw2 aw3 = mX12_typeTerms_L11 n2 (va_up iw2 53 (nI (st.length + 2))) (au (au (au aw3 50 (st.length + 1) (nI (tKt T k (nxf k)))) 51 (st.length + 1) 0) 52 (st.length + 1) (nI b)) := by
    intro n2 b aw3 h24' haw
    have h32 : aw3 32 k = nI (tWd T k) := by rw [haw 32 (Or.inl rfl), q6.2 32 (by decide)]; exact (hre k hk).1.1
    have h38 : aw3 38 k = nI (tNk T k) := by rw [haw 38 (Or.inr (Or.inr rfl)), q6.2 38 (by decide)]; exact a38
    have h36 : aw3 36 (9 * k + tTp T k (nxf k)) = nI (tKt T k (nxf k)) := by
      rw [haw 36 (Or.inr (Or.inl rfl)), q6.2 36 (by decide)]
      exact ((hre k hk).2 (tTp T k (nxf k)) (by rw [tAll_mn hA hk]; exact tTp_lt hA hk hn)).1
    have hw := (hA.2.2 k hk).1.1.1
    have htp := tTp_lt hA hk hn
    have e33 : mX12_insideAt_J33 (nI k) (nI (tTp T k (nxf k))) iw2 aw3 = some (nI (tKt T k (nxf k)), iw2, aw3) := by
      unfold mX12_insideAt_J33
      rw [show (9 : Int32) * nI k + nI (tTp T k (nxf k)) = nI (9 * k + tTp T k (nxf k)) by rw [show (9 : Int32) = nI 9 from rfl, nmul, nadd], if_neg (by first | exact nI_in (by omega) (by omega) | exact nI_inn (by omega) (by omega)), ncl (by omega), h36]
    have eins : mX12_insideAt (nI k) (nI (nxf k)) iw2 aw3 = some (nI (tKt T k (nxf k)), iw2, aw3) := by
      rw [← e33]
      unfold mX12_insideAt
      rw [if_neg (by first | exact nI_in (by omega) (by omega) | exact nI_inn (by omega) (by omega)), ncl (by omega), h32]
      by_cases e32 : tWd T k = 32
      · rw [if_pos (show nI (tWd T k) = 32 by rw [e32]; rfl)]
        by_cases j0 : nxf k = 0
        · rw [if_pos (show nI (nxf k) = 0 by rw [j0]; rfl), if_neg (by first | exact nI_in (by omega) (by omega) | exact nI_inn (by omega) (by omega)), h38, show nI (tNk T k) - 1 = nI (tTp T k (nxf k)) by unfold tTp; rw [if_pos e32, if_pos j0, show tNk T k = (tNk T k - 1) + 1 by omega, nsub1, Nat.add_sub_cancel]]
        · rw [if_neg (show ¬ nI (nxf k) = 0 from fun q => j0 ((nI_eq (b := 0) (by omega) (by decide)).mp q)), show nI (nxf k) - 1 = nI (tTp T k (nxf k)) by unfold tTp; rw [if_pos e32, if_neg j0, show nxf k = (nxf k - 1) + 1 by omega, nsub1, Nat.add_sub_cancel]]
      · rw [if_neg (show ¬ nI (tWd T k) = 32 from fun q => e32 ((nI_eq (b := 32) (by omega) (by decide)).mp q)), show nI (nxf k) = nI (tTp T k (nxf k)) by unfold tTp; rw [if_neg e32]]
    unfold mX12_typeTerms_J99 mX12_beginTyping
    rw [if_pos h24', eins, obe, h53, if_neg (by first | exact nI_in (by omega) (by omega) | exact nI_inn (by omega) (by omega)), if_neg (by first | exact nI_in (by omega) (by omega) | exact nI_inn (by omega) (by omega)), if_neg (by first | exact nI_in (by omega) (by omega) | exact nI_inn (by omega) (by omega)), ncl (by omega), obe, show nI (st.length + 1) + 1 = nI (st.length + 2) from nadd _ 1]
  have fc : ∀ w : Int32, fYc iv ar (va_up iv2 208 w) (au (au (au (au ar2 205 (tPl T (tKt T k (nxf k))) c) 207 st.length (nI (nxf k + 1))) 206 (st.length + 1) (nI (tPl T (tKt T k (nxf k))))) 207 (st.length + 1) 0) := fun w => ⟨fun x a b c d e f => by rw [va_up_ne _ _ e, q5.1 x a b c d], fun x a b c d e f g i j l => by rw [au_ne _ l, au_ne _ j, au_ne _ l, au_ne _ i, q5.2 x a b c d e f]⟩
  have f51 : ∀ x, x < 4 ∨ (21 < x ∧ x < 50) ∨ x = 53 ∨ 55 < x → aw2 x = aw x := fun x hx => by rw [q6.2 x (by omega), au_ne _ (by omega)]
  -- the state behind it
  have mkS : ∀ (va2 : Nat → Nat) (aw3 : mA), iw2 24 = 0 → (∀ y, y ∈ vis → va2 y = va y) → (∀ x, x ≠ 55 → aw3 x = aw2 x) → (∀ i, i < (tSc T k).length → aw3 55 i = aw2 55 i) → bnd aw3 va2 (tSc T (tKt T k (nxf k))) → (∀ y, y ∈ tSc T (tKt T k (nxf k)) → va2 y < g2 ∧ (au ar2 205 (tPl T (tKt T k (nxf k))) c) 205 (tPl T y) = nI (va2 y)) → (tBd T k (tTp T k (nxf k)) → va2 (tKt T k (nxf k)) < g2 ∧ (au ar2 205 (tPl T (tKt T k (nxf k))) c) 205 (tPl T (tKt T k (nxf k))) = nI (va2 (tKt T k (nxf k))) ∧ vaR kd2 lb2 pt2 T ty va2 k (tTp T k (nxf k))) →
      yAll g0 kd0 lb0 pt0 g2 kd2 lb2 pt2 m T ty va2 (va_up (va_up nxf k (nxf k + 1)) (tKt T k (nxf k)) 0) (tKt T k (nxf k) :: vis) (tKt T k (nxf k) :: k :: st) (va_up iv2 208 (nI (st.length + 2))) (au (au (au (au ar2 205 (tPl T (tKt T k (nxf k))) c) 207 st.length (nI (nxf k + 1))) 206 (st.length + 1) (nI (tPl T (tKt T k (nxf k))))) 207 (st.length + 1) 0) la pB (va_up iw2 53 (nI (st.length + 2))) (au (au (au aw3 50 (st.length + 1) (nI (tKt T k (nxf k)))) 51 (st.length + 1) 0) 52 (st.length + 1) (nI (tSc T (tKt T k (nxf k))).length)) := by
    intro va2 aw3 h24' hva haw haw55 hbnd hsc2 hbd2
    have hplne : ∀ y, y ∈ vis → tPl T y ≠ tPl T (tKt T k (nxf k)) := fun y hy e => by
      have hym := (hV y hy).1.1
      have hyne : y ≠ tKt T k (nxf k) := fun e2 => hnew (by rw [← e2]; exact hy)
      rcases Nat.lt_or_ge y (tKt T k (nxf k)) with hlt | hge
      · have := hcl.1 y (tKt T k (nxf k)) hlt hh; omega
      · have := hcl.1 (tKt T k (nxf k)) y (by omega) hym; omega
    have nx1 : ∀ v, v ∈ vis → v ≠ k → va_up (va_up nxf k (nxf k + 1)) (tKt T k (nxf k)) 0 v = nxf v := fun v hv hvk => by
      rw [va_up_ne _ _ (fun e => hnew (by rw [← e]; exact hv)), va_up_ne _ _ hvk]
    have nxk : va_up (va_up nxf k (nxf k + 1)) (tKt T k (nxf k)) 0 k = nxf k + 1 := by
      rw [va_up_ne _ _ (by omega), va_up_self]
    have hstv : ∀ x, x ∈ k :: st → x ≠ tKt T k (nxf k) := fun x hx => by
      rcases List.mem_cons.mp hx with e | hx
      · omega
      · have := (d3 x hx).1; omega
    refine ⟨⟨hA, grow_t hgr q3, hcl, ?_⟩, ⟨⟨q4.1, q4.2.1, ⟨q4.2.2.1.1, q4.2.2.1.2⟩, ⟨q4.2.2.2.1.1, fun x hx => ?_⟩, ordI_keep rfl q4.2.2.2.2⟩, h24', by show iw2 2 = m1; rw [q7, h2]⟩, ⟨fun v hv => ?_, List.nodup_cons.mpr ⟨hnew, hnd⟩, List.mem_cons_of_mem _ h0⟩, ?_, rfl, rfl⟩
    · unfold tRe
      rw [au_ne _ (by decide), au_ne _ (by decide), au_ne _ (by decide), au_ne _ (by decide), au_ne _ (by decide), au_ne _ (by decide), au_ne _ (by decide), au_ne _ (by decide), au_ne _ (by decide), au_ne _ (by decide), au_ne _ (by decide), au_ne _ (by decide), au_ne _ (by decide), au_ne _ (by decide), au_ne _ (by decide), au_ne _ (by decide), au_ne _ (by decide), au_ne _ (by decide), au_ne _ (by decide), au_ne _ (by decide), au_ne _ (by decide), haw 32 (by decide), haw 33 (by decide), haw 34 (by decide), haw 35 (by decide), haw 38 (by decide), haw 36 (by decide), haw 37 (by decide), f51 32 (by decide), f51 33 (by decide), f51 34 (by decide), f51 35 (by decide), f51 38 (by decide), f51 36 (by decide), f51 37 (by decide)]
      exact hre
    · show aw3 4 x = nI (kd2 x) ∧ aw3 5 x = nI (lb2 x) ∧ ∀ l, l < 8 → (lb2 x).testBit l = true → aw3 6 (8 * x + l) = nI (pt2 x l)
      rw [haw 4 (by decide), haw 5 (by decide), haw 6 (by decide)]
      exact q4.2.2.2.1.2 x hx
    · have e204 : ∀ x, (au (au (au (au ar2 205 (tPl T (tKt T k (nxf k))) c) 207 st.length (nI (nxf k + 1))) 206 (st.length + 1) (nI (tPl T (tKt T k (nxf k))))) 207 (st.length + 1) 0) 204 x = ar 204 x := fun x => by
        show ar2 204 x = ar 204 x
        rw [q5.2 204 (by decide) (by decide) (by decide) (by decide) (by decide) (by decide)]
      have e205 : ∀ y, y ∈ vis → (au (au (au (au ar2 205 (tPl T (tKt T k (nxf k))) c) 207 st.length (nI (nxf k + 1))) 206 (st.length + 1) (nI (tPl T (tKt T k (nxf k))))) 207 (st.length + 1) 0) 205 (tPl T y) = ar 205 (tPl T y) := fun y hy => by
        show (au ar2 205 (tPl T (tKt T k (nxf k))) c) 205 (tPl T y) = ar 205 (tPl T y)
        rw [au_ni _ (hplne y hy), q5.2 205 (by decide) (by decide) (by decide) (by decide) (by decide) (by decide)]
      have e54 : ∀ x, (au (au (au aw3 50 (st.length + 1) (nI (tKt T k (nxf k)))) 51 (st.length + 1) 0) 52 (st.length + 1) (nI (tSc T (tKt T k (nxf k))).length)) 54 x = aw 54 x := fun x => by
        show aw3 54 x = aw 54 x
        rw [haw 54 (by decide), q6.2 54 (by decide), au_ne _ (by decide)]
      rcases List.mem_cons.mp hv with rfl | hv
      · refine ⟨⟨hh, ?_, Or.inr ⟨?_, nxf k, ?_, ?_⟩, fun j hj => ?_, fun y hy => ?_⟩, fun hns => absurd List.mem_cons_self hns, fun j hj => ?_⟩
        · rw [va_up_self]; exact Nat.zero_le _
        · rw [hin.2.2.1]; exact List.mem_cons_of_mem _ d1
        · rw [hin.2.2.1, nxk]; omega
        · rw [hin.2.2.1]
        · rw [va_up_self] at hj; exact absurd hj (Nat.not_lt_zero j)
        · rw [hscH] at hy
          unfold tNs at hy
          by_cases e : tWd T k = 21 ∨ tWd T k = 33 ∨ (tWd T k = 32 ∧ tTp T k (nxf k) + 1 < tNk T k)
          · rw [if_pos e] at hy
            rcases List.mem_cons.mp hy with rfl | hy
            · exact List.mem_cons_self
            · exact List.mem_cons_of_mem _ ((hV k d1).1.2.2.2.2 y hy)
          · rw [if_neg e] at hy
            exact List.mem_cons_of_mem _ ((hV k d1).1.2.2.2.2 y hy)
        · rw [va_up_self] at hj; exact absurd hj (Nat.not_lt_zero j)
      · obtain ⟨⟨v1, v2, v3, v4, v5⟩, v6, v7⟩ := hV v hv
        have hkidvis : ∀ j, j < nxf v → tKt T v j ≠ tKt T k (nxf k) := fun j hj e => hnew (by rw [← e]; exact v4 j hj)
        refine ⟨⟨v1, ?_, ?_, fun j hj => ?_, fun y hy => List.mem_cons_of_mem _ (v5 y hy)⟩, fun hns => ?_, fun j hj hb => ?_⟩
        · by_cases ev : v = k
          · subst ev; rw [nxk]; exact hn
          · rw [nx1 v hv ev]; exact v2
        · rcases v3 with e | ⟨j0, j, j1, j2⟩
          · exact Or.inl e
          · refine Or.inr ⟨List.mem_cons_of_mem _ j0, j, ?_, j2⟩
            by_cases ep : tPa T v = k
            · rw [ep, nxk]; rw [ep] at j1; omega
            · rw [nx1 _ j0 ep]; exact j1
        · by_cases ev : v = k
          · subst ev
            rw [nxk] at hj
            by_cases ej : j = nxf v
            · rw [ej]; exact List.mem_cons_self
            · exact List.mem_cons_of_mem _ (v4 j (by omega))
          · rw [nx1 v hv ev] at hj
            exact List.mem_cons_of_mem _ (v4 j hj)
        · have hns2 : v ∉ k :: st := fun hh => hns (List.mem_cons_of_mem _ hh)
          have ev : v ≠ k := fun e => hns2 (by rw [e]; exact List.mem_cons_self)
          obtain ⟨w1, w2, w3, w4, w5, w6⟩ := v6 hns2
          rw [nx1 v hv ev, e204, e54]
          refine ⟨w1, Nat.lt_of_lt_of_le w2 q3.1, w3, w4, tyR_move hA v1 hg.2.1 q3 w2 (fun i hi => ⟨rfl, ?_⟩) (fun y hy => hva y (v5 y hy)) w5, fun i hi hm => ?_⟩
          · obtain ⟨j, j1, j2⟩ := tTp_sur hi
            have hm := v4 j (by omega)
            unfold tKt at hm
            rw [j2] at hm
            exact ((hV _ hm).2.1 (w6 i hi)).2.1
          · rcases List.mem_cons.mp hm with e | hm
            · obtain ⟨j, j1, j2⟩ := tTp_sur hi
              have hm := v4 j (by omega)
              unfold tKt at hm
              rw [j2] at hm
              exact hnew (by rw [← e]; exact hm)
            · exact w6 i hi hm
        · by_cases ev : v = k ∧ j = nxf k
          · obtain ⟨rfl, rfl⟩ := ev
            obtain ⟨w1, w2, w3⟩ := hbd2 hb
            refine ⟨w1, w2, w3, fun e32 => ?_⟩
            have hj0 : 0 < nxf v := by
              rcases Nat.eq_zero_or_pos (nxf v) with e0 | e0
              · exfalso
                unfold tBd tTp at hb
                rw [if_pos e32, if_pos e0] at hb
                omega
              · exact e0
            obtain ⟨z1, z2, z3⟩ := hlast e32 hj0
            refine ⟨List.mem_cons_of_mem _ z1, fun hm => ?_⟩
            rcases List.mem_cons.mp hm with e | hm
            · exact z3 e
            · exact z2 hm
          · have hj2 : j < nxf v := by
              by_cases evk : v = k
              · subst evk
                rw [nxk] at hj
                omega
              · rw [nx1 v hv evk] at hj; exact hj
            obtain ⟨w1, w2, w3, w4⟩ := v7 j hj2 hb
            have hkv := v4 j hj2
            rw [hva _ hkv, e205 _ hkv]
            refine ⟨Nat.lt_of_lt_of_le w1 q3.1, w2, vaR_move q3 (fun e32 hi => ⟨rfl, ?_⟩) (hva _ hkv) w3, fun e32 => ⟨List.mem_cons_of_mem _ (w4 e32).1, fun hm => ?_⟩⟩
            · obtain ⟨z1, z2⟩ := w4 e32
              exact ((hV _ z1).2.1 z2).2.1
            · obtain ⟨z1, z2⟩ := w4 e32
              rcases List.mem_cons.mp hm with e | hm
              · exact hnew (by rw [← e]; exact z1)
              · exact z2 hm
    · have hsck : ∀ x, x ∈ k :: st → ∀ y, y ∈ tSc T x → y ∈ vis := fun x hx y hy => by
        have hxv : x ∈ vis := by
          rcases List.mem_cons.mp hx with rfl | hx
          · exact d1
          · exact yS_vis st hS x hx
        exact (hV x hxv).1.2.2.2.2 y hy
      have e205 : ∀ y, y ∈ vis → (au (au (au (au ar2 205 (tPl T (tKt T k (nxf k))) c) 207 st.length (nI (nxf k + 1))) 206 (st.length + 1) (nI (tPl T (tKt T k (nxf k))))) 207 (st.length + 1) 0) 205 (tPl T y) = ar 205 (tPl T y) := fun y hy => by
        show (au ar2 205 (tPl T (tKt T k (nxf k))) c) 205 (tPl T y) = ar 205 (tPl T y)
        rw [au_ni _ (hplne y hy), q5.2 205 (by decide) (by decide) (by decide) (by decide) (by decide) (by decide)]
      have e55 : ∀ i, i < (tSc T k).length → (au (au (au aw3 50 (st.length + 1) (nI (tKt T k (nxf k)))) 51 (st.length + 1) 0) 52 (st.length + 1) (nI (tSc T (tKt T k (nxf k))).length)) 55 i = aw 55 i := fun i hi => by
        show aw3 55 i = aw 55 i
        rw [haw55 i hi, q6.2 55 (by decide), au_ne _ (by decide)]
      have hA2 : ∀ r, r ≠ 300 → r ≠ 301 → r ≠ 302 → r ≠ 1 → r ≠ 2 → r ≠ 3 → ar2 r = ar r := q5.2
      refine ⟨⟨⟨?_, ?_⟩, ⟨?_, ?_, ?_⟩, ⟨?_, hsc2⟩, ⟨List.mem_cons_self, ?_, fun x hx => ?_⟩⟩, ⟨⟨⟨?_, ?_⟩, ⟨?_, ?_, ?_⟩, ⟨?_, fun y hy => ?_⟩, ⟨List.mem_cons_of_mem _ d1, d2, d3⟩⟩, ?_⟩⟩
      · show au (au (au (au ar2 205 _ c) 207 st.length _) 206 (st.length + 1) _) 207 (st.length + 1) 0 206 (st.length + 1) = _
        rw [au_ne _ (by decide), au_self]
      · show au (au (au (au ar2 205 _ c) 207 st.length _) 206 (st.length + 1) _) 207 (st.length + 1) 0 207 (st.length + 1) = _
        rw [au_self, va_up_self]
        rfl
      · show au (au (au aw3 50 (st.length + 1) _) 51 (st.length + 1) 0) 52 (st.length + 1) _ 50 (st.length + 1) = _
        rw [au_ne _ (by decide), au_ne _ (by decide), au_self]
      · show au (au (au aw3 50 (st.length + 1) _) 51 (st.length + 1) 0) 52 (st.length + 1) _ 51 (st.length + 1) = _
        rw [au_ne _ (by decide), au_self, va_up_self]
        rfl
      · show au (au (au aw3 50 (st.length + 1) _) 51 (st.length + 1) 0) 52 (st.length + 1) _ 52 (st.length + 1) = _
        rw [au_self]
      · exact bnd_keep (aw := aw3) (va := va2) _ (fun _ _ => rfl) (fun _ _ => rfl) hbnd
      · show st.length + 1 ≤ tKt T k (nxf k)
        omega
      · have hlen : (tSc T k).length ≤ (tSc T (tKt T k (nxf k))).length := by
          rw [hscH]
          unfold tNs
          by_cases e : tWd T k = 21 ∨ tWd T k = 33 ∨ (tWd T k = 32 ∧ tTp T k (nxf k) + 1 < tNk T k)
          · rw [if_pos e, List.length_cons]; omega
          · rw [if_neg e]; omega
        rcases List.mem_cons.mp hx with e | hx
        · rw [e]; exact ⟨by omega, hlen⟩
        · obtain ⟨z1, z2⟩ := d3 x hx
          exact ⟨by omega, by omega⟩
      · rw [au_ne _ (by decide), au_ni _ (by omega), au_ne _ (by decide)]
        show ar2 206 st.length = _
        rw [hA2 206 (by decide) (by decide) (by decide) (by decide) (by decide) (by decide)]
        exact a1
      · rw [au_ni _ (by omega), au_ne _ (by decide), au_self, nxk]
      · rw [au_ne _ (by decide), au_ne _ (by decide), au_ni _ (by omega), haw 50 (by decide), q6.2 50 (by decide), au_ne _ (by decide)]
        exact b1
      · rw [au_ne _ (by decide), au_ni _ (by omega), au_ne _ (by decide), haw 51 (by decide), q6.2 51 (by decide), au_self, nxk]
      · rw [au_ni _ (by omega), au_ne _ (by decide), au_ne _ (by decide), haw 52 (by decide), q6.2 52 (by decide)]
        exact b3
      · exact bnd_keep _ e55 (fun y hy => hva y (hsck k List.mem_cons_self y hy)) c1
      · have hyv := hsck k List.mem_cons_self y hy
        rw [hva y hyv, e205 y hyv]
        exact ⟨Nat.lt_of_lt_of_le (c2 y hy).1 q3.1, (c2 y hy).2⟩
      · -- those further down: what is bound around them is bound around k
        refine yS_keep q3.1 st (fun i hi => ⟨?_, ?_, ?_, ?_, ?_⟩) (fun x hx => ⟨nx1 x (yS_vis st hS x hx) (by have := (d3 x hx).1; omega), fun h => List.mem_cons_of_mem _ h, fun i hi => e55 i ?_, fun y hy => ⟨hva y (hsck x (List.mem_cons_of_mem _ hx) y hy), e205 y (hsck x (List.mem_cons_of_mem _ hx) y hy)⟩⟩) hS
        · rw [au_ne _ (by decide), au_ni _ (by omega), au_ne _ (by decide)]
          show ar2 206 i = _
          rw [hA2 206 (by decide) (by decide) (by decide) (by decide) (by decide) (by decide)]
        · rw [au_ni _ (by omega), au_ne _ (by decide), au_ni _ (by omega)]
          show ar2 207 i = _
          rw [hA2 207 (by decide) (by decide) (by decide) (by decide) (by decide) (by decide)]
        · rw [au_ne _ (by decide), au_ne _ (by decide), au_ni _ (by omega), haw 50 (by decide), q6.2 50 (by decide), au_ne _ (by decide)]
        · rw [au_ne _ (by decide), au_ni _ (by omega), au_ne _ (by decide), haw 51 (by decide), q6.2 51 (by decide), au_ni _ (by omega)]
        · rw [au_ni _ (by omega), au_ne _ (by decide), au_ne _ (by decide), haw 52 (by decide), q6.2 52 (by decide), au_ne _ (by decide)]
        · have := (d3 x hx).2
          omega
  rcases q8 with ⟨w1, rfl, rfl, w4⟩ | ⟨w1, τ, w2, rfl, rfl, w5, w6⟩ | ⟨rfl, rfl, w3⟩
  · have hscE : tSc T (tKt T k (nxf k)) = tSc T k := by rw [hscH]; exact if_neg w1
    refine Or.inl ⟨m1, g2, kd2, lb2, pt2, va, _, _, _, _, _, mkS va aw2 w4 (fun _ _ => rfl) (fun _ _ => rfl) (fun _ _ => rfl) ?_ (fun y hy => ?_) (fun hb => absurd hb w1), ?_, ?_, fc _, ⟨fun x a b c d e f => by rw [va_up_ne _ _ f, q6.1 x a b c d e], fun x hx => by rw [au_ne _ (by omega), au_ne _ (by omega), au_ne _ (by omega), f51 x hx]⟩⟩
    · rw [hscE]
      exact bnd_keep _ (fun i hi => by rw [q6.2 55 (by decide), au_ne _ (by decide)]) (fun _ _ => rfl) c1
    · rw [hscE] at hy
      have hyv := (hV k d1).1.2.2.2.2 y hy
      have hyne : tPl T y ≠ tPl T (tKt T k (nxf k)) := fun e => by
        have hym := (hV y hyv).1.1
        have hyne : y ≠ tKt T k (nxf k) := fun e2 => hnew (by rw [← e2]; exact hyv)
        rcases Nat.lt_or_ge y (tKt T k (nxf k)) with hlt | hge
        · have := hcl.1 y (tKt T k (nxf k)) hlt hh; omega
        · have := hcl.1 (tKt T k (nxf k)) y (by omega) hym; omega
      rw [au_ni _ hyne, q5.2 205 (by decide) (by decide) (by decide) (by decide) (by decide) (by decide)]
      exact ⟨Nat.lt_of_lt_of_le (c2 y hy).1 q3.1, (c2 y hy).2⟩
    · rw [eC]
      unfold mX2_check_J141
      rw [if_neg (show ¬ m1 = -15 by decide), if_neg (show ¬ m1 = -3 by decide), show nI t + 1 = nI (t + 1) from nadd _ 1]
    · rw [eR, if_pos (show m1 < 0 by decide), e99 (n2 + 1) _ aw2 w4 (fun _ _ => rfl), hscE]
  · have hscE : tSc T (tKt T k (nxf k)) = tKt T k (nxf k) :: tSc T k := by rw [hscH]; exact if_pos w1
    have hτ : τ < 200 := Nat.lt_of_lt_of_le w2 q4.1
    have hva : ∀ y, y ∈ vis → va_up va (tKt T k (nxf k)) τ y = va y := fun y hy => va_up_ne _ _ (fun e => hnew (by rw [← e]; exact hy))
    refine Or.inl ⟨nI τ, g2, kd2, lb2, pt2, va_up va (tKt T k (nxf k)) τ, _, _, _, _, _, mkS (va_up va (tKt T k (nxf k)) τ) (au aw2 55 (tSc T k).length (nI τ)) w5 hva (fun x hx => au_ne _ hx) (fun i hi => au_ni _ (by omega)) ?_ (fun y hy => ?_) (fun hb => ⟨by rw [va_up_self]; exact w2, by rw [va_up_self, au_self], w6 _ (va_up_self _ _ _)⟩), ?_, ?_, fc _, ⟨fun x a b c d e f => by rw [va_up_ne _ _ f, q6.1 x a b c d e], fun x hx => by rw [au_ne _ (by omega), au_ne _ (by omega), au_ne _ (by omega), au_ne _ (by omega), f51 x hx]⟩⟩
    · rw [hscE]
      refine ⟨by rw [au_self, va_up_self], bnd_keep _ (fun i hi => by rw [au_ni _ (by omega), q6.2 55 (by decide), au_ne _ (by decide)]) (fun y hy => hva y ((hV k d1).1.2.2.2.2 y hy)) c1⟩
    · rw [hscE] at hy
      rcases List.mem_cons.mp hy with rfl | hy
      · rw [va_up_self, au_self]
        exact ⟨w2, rfl⟩
      · have hyv := (hV k d1).1.2.2.2.2 y hy
        have hyne : tPl T y ≠ tPl T (tKt T k (nxf k)) := fun e => by
          have hym := (hV y hyv).1.1
          have hyne : y ≠ tKt T k (nxf k) := fun e2 => hnew (by rw [← e2]; exact hyv)
          rcases Nat.lt_or_ge y (tKt T k (nxf k)) with hlt | hge
          · have := hcl.1 y (tKt T k (nxf k)) hlt hh; omega
          · have := hcl.1 (tKt T k (nxf k)) y (by omega) hym; omega
        rw [hva y hyv, au_ni _ hyne, q5.2 205 (by decide) (by decide) (by decide) (by decide) (by decide) (by decide)]
        exact ⟨Nat.lt_of_lt_of_le (c2 y hy).1 q3.1, (c2 y hy).2⟩
    · have hne15 : ¬ nI τ = -15 := fun e => by
        have h1 := congrArg Int32.toInt e
        rw [nI_toInt (by omega), show (-15 : Int32).toInt = -15 by decide] at h1
        omega
      have hne3 : ¬ nI τ = -3 := fun e => by
        have h1 := congrArg Int32.toInt e
        rw [nI_toInt (by omega), show (-3 : Int32).toInt = -3 by decide] at h1
        omega
      rw [eC]
      unfold mX2_check_J141
      rw [if_neg hne15, if_neg hne3, show nI t + 1 = nI (t + 1) from nadd _ 1]
    · rw [eR, if_neg (nI_pos (by omega)), e99 (n2 + 1) _ (au aw2 55 (tSc T k).length (nI τ)) w5 (fun x hx => au_ne _ (by omega)), hscE, List.length_cons]
  · refine Or.inr ⟨m3, va_up iv2 208 (nI (st.length + 2)), au (au (au (au ar2 205 (tPl T (tKt T k (nxf k))) m3) 207 st.length (nI (nxf k + 1))) 206 (st.length + 1) (nI (tPl T (tKt T k (nxf k))))) 207 (st.length + 1) 0, iw2, au aw2 55 (tSc T k).length 0, ?_, ?_, ⟨⟨g2, kd2, lb2, pt2, grow_t hgr q3, q4.1, q4.2.1, ⟨q4.2.2.1.1, q4.2.2.1.2⟩, ⟨q4.2.2.2.1.1, q4.2.2.2.1.2⟩, ordI_keep rfl q4.2.2.2.2⟩, Or.inr ⟨rfl, w3, by rw [q7, h2]⟩⟩, fc _, ⟨fun x a b c d e f => q6.1 x a b c d e, fun x hx => by rw [au_ne _ (by omega), f51 x hx]⟩⟩
    · rw [eC]
      unfold mX2_check_J141
      rw [if_neg (show ¬ m3 = -15 by decide), if_pos (show m3 = -3 from rfl)]
    · rw [eR (n2 + 1), if_neg (show ¬ (0 : Int32) < 0 by decide)]
      unfold mX12_typeTerms_J99
      rw [if_neg (show ¬ iw2 24 = 0 by rw [w3]; decide), mX12_typeTerms_L11]
      by_cases e : (iw2 53) ≤ 0
      · rw [if_pos e]
      · rw [if_neg e, if_neg (show ¬ iw2 24 = 0 by rw [w3]; decide)]
end
