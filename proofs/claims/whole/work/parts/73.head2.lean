theorem r_part1 {g m : Nat} {iw : mI} {aw : mA} (hm : m < 200) (h3 : iw 3 = nI g) (h31 : iw 31 = nI (m + 1)) : mX12_takeNode iw aw = ob (mX12_take 0 (nI g - 1) iw aw) (fun r18 iv18 ar18 => some (0, iv18, au ar18 34 m r18)) := by
  unfold mX12_takeNode
  rw [h3, h31, nsub1]
  simp only [ncl (show m < 2147483648 by omega), if_neg (nI_inn (a := m) (N := 200) (by omega) (by omega))]
/-- 20 k -/
theorem head_var {g : Nat} {kd lb : Nat → Nat} {n q p m M : Nat} {pl : Nat → Nat} {ns : List Nat} {iv : mI} {ar : mA} {la : mL} {pA pB : mA} {iw : mI} {aw : mA} (hrd : rd n q iv ar iw aw) (hm : m < 200) (hq : q = p + 1) (hns : ns.length ≤ 200) (hch : chC M pl pB ns) (hpl : ∀ h, h < M → pl h < 200) (htx : ∀ j, j < n → pB 0 j = ar 800 j) :
    hOut g kd lb 20 n q p m pl ns iv ar la pA pB iw aw (mX7_readHead (nI p) (nI 20) (hdI pl ns) iv ar la pA pB) (ob (mX12_wants (nI 20) iw aw) (fun r101 iv101 ar101 => rHd (nI 20) (nI ns.length) (nI m) r101 iv101 ar101)) := by
  have hq2 : q ≤ 200 := Nat.le_trans hrd.2.1 hrd.1
  obtain ⟨F, hF, hFF⟩ : ∃ F, bigF = F + 1 ∧ 5000 < F := ⟨999999, rfl, by omega⟩
  have eC : mX7_readHead (nI p) (nI 20) (hdI pl ns) iv ar la pA pB = obc (obc (mX8_take 0 2147483647 iv ar la pA pB) (fun r7 iv7 ar7 la7 pA7 pB7 => if r7 = 0 then some (0, iv7, ar7, la7, pA7, pB7) else obc (mX8_taken iv7 ar7 la7 pA7 pB7) (fun r21 iv21 ar21 la21 pA21 pB21 => mX7_readVariable_L26 bigF (nI p) (hdI pl ns) r21 iv21 ar21 la21 pA21 pB21))) (fun r75 iv75 ar75 la75 pA75 pB75 => if r75 = 0 then some ((-1), iv75, ar75, la75, pA75, pB75) else some (0, iv75, ar75, la75, pA75, pB75)) := rfl
  have eR : ob (mX12_wants (nI 20) iw aw) (fun r101 iv101 ar101 => rHd (nI 20) (nI ns.length) (nI m) r101 iv101 ar101) = ob (mX12_take 0 (nI ns.length - 1) iw aw) (fun r191 iv191 ar191 => mX12_readTermWord_J290 0 iv191 (au ar191 34 m r191)) := by
    have e : ob (mX12_wants (nI 20) iw aw) (fun r101 iv101 ar101 => rHd (nI 20) (nI ns.length) (nI m) r101 iv101 ar101) = ob (mX12_take 0 (nI ns.length - 1) iw aw) (fun r191 iv191 ar191 => if (nI m) < 0 ∨ 200 ≤ (nI m).toNatClampNeg then none else mX12_readTermWord_J290 0 iv191 (au ar191 34 (nI m).toNatClampNeg r191)) := rfl
    rw [e]
    simp only [ncl (show m < 2147483648 by omega), if_neg (nI_inn (a := m) (N := 200) (by omega) (by omega))]
  rw [eC, eR, take_c hrd 0 2147483647 la pA pB, take_r hrd 0 (nI ns.length - 1)]
  -- a fault at the number
  have bad : ∀ (c : Int32), (c = m11 ∨ c = m12) → ∀ (iv2 : mI), iv2 804 = c → iv2 805 = nI q → fA iv ar iv2 ar → hOut g kd lb 20 n q p m pl ns iv ar la pA pB iw aw (some ((-1), iv2, ar, la, pA, pB)) (ob (some (c, va_up (va_up iw 24 c) 2 (nI q), aw)) (fun r191 iv191 ar191 => mX12_readTermWord_J290 0 iv191 (au ar191 34 m r191))) := by
    intro c hcc iv2 h1 h2 h3
    refine Or.inl ⟨iv2, va_up (va_up iw 24 c) 2 (nI q), au aw 34 m c, rfl, ?_, ⟨c, nI q, ?_, h1, rfl, h2, rfl⟩, h3, fB_w (fB_fail _ _ _ _) _ (Or.inl rfl) _ _⟩
    · rw [obe]
      unfold mX12_readTermWord_J290
      rw [if_neg (show ¬ (va_up (va_up iw 24 c) 2 (nI q)) 24 = 0 from mc0 hcc)]
    · rcases hcc with h | h
      · exact Or.inl h
      · exact Or.inr (Or.inl h)
  by_cases e : q = n
  · rw [if_pos e, if_pos e, obce, if_pos rfl, obce, if_pos rfl]
    exact bad m12 (Or.inr rfl) _ rfl rfl (fA_fail _ _ _ _)
  · rw [if_neg e, if_neg e]
    by_cases e0 : ar 800 q < 0
    · rw [if_pos e0, if_pos e0, obce, if_pos rfl, obce, if_pos rfl]
      exact bad m11 (Or.inl rfl) _ rfl rfl (fA_fail _ _ _ _)
    · rw [if_neg e0, if_neg e0]
      obtain ⟨j, hj, ej⟩ := nI_of e0
      rw [ej, if_pos (show nI j ≤ (2147483647 : Int32) from nI_le (show j ≤ 2147483647 by omega) (by decide)), obce, if_neg (show ¬ (1 : Int32) = 0 by decide)]
      unfold mX8_taken
      rw [obce, show (va_up (va_up iv 803 (nI j)) 802 (nI (q + 1))) 803 = nI j from rfl]
      rcases walk (l1 := nI p) (iv := va_up (va_up iv 803 (nI j)) 802 (nI (q + 1))) (ar := ar) (la := la) (pA := pA) hpl ns j bigF (by omega) (by omega) hch with ⟨h, h1, h2, h3⟩ | ⟨h1, h2⟩
      · have hjl : j < ns.length := (List.getElem?_eq_some_iff.mp h1).1
        obtain ⟨L, hL⟩ : ∃ L, ns.length = L + 1 := ⟨ns.length - 1, by omega⟩
        rw [h3]
        unfold mX7_readVariable_J51 mX6_setHomeB
        rw [if_neg (show ¬ nI (pl h) = -1 by rw [nm1ne (by have := hpl h h2; omega)]; exact id), if_neg (nI_pos (by omega)), if_neg (show ¬ (200 : Int32) ≤ nI p from nI_ge (show p < 200 by omega) (by decide)), if_neg (by first | exact nI_in (by omega) (by omega) | exact nI_inn (by omega) (by omega)), ncl (by omega), obce, obce, if_neg (show ¬ (1 : Int32) = 0 by decide)]
        rw [hL, nsub1, if_pos (nI_le (show j ≤ L by omega) (by omega)), obe]
        unfold mX12_readTermWord_J290
        rw [if_pos (show (va_up iw 23 (nI (q + 1))) 24 = 0 from hrd.2.2.2.2.2.2.1)]
        refine Or.inr ⟨0, nI j, aw 35 m, q + 1, _, _, _, _, rfl, rfl, Nat.le_succ q, rd_next hrd (by have := hrd.2.1; omega) rfl rfl rfl rfl rfl rfl (au_ne _ (by decide)), ?_, ?_, ⟨au_self _ _ _ _, rfl⟩, fun k k1 k2 => au_ne _ k1, fun i hi => ⟨au_ni _ hi, rfl⟩, Or.inr ⟨rfl, j, h, rfl, h1, rfl⟩, fun k k1 k2 => by rw [va_up_ne _ _ k1, va_up_ne _ _ k2], fun k k1 => va_up_ne _ _ k1⟩
        · refine ⟨⟨by omega, by omega⟩, fun _ => ⟨rfl, j, hjl, rfl⟩, fun h => ?_, fun h => ?_, fun h => ?_, fun h => ?_, fun h => ?_, fun h => ?_, fun h => ?_, fun h => ?_⟩ <;> exfalso <;> omega
        · refine ⟨fun _ => ⟨by have := hrd.2.1; have := hrd.1; omega, ?_⟩, fun h => by omega, fun h => by omega⟩
          rw [← hq, htx q (by have := hrd.2.1; omega), ej]
      · rw [h2]
        unfold mX7_readVariable_J51 mX8_fail
        rw [if_pos rfl, obce, if_pos (Or.inl rfl), obce, if_pos rfl]
        have hhi : ¬ nI j ≤ nI ns.length - 1 := by
          cases hL : ns.length with
          | zero =>
            rw [m0l, Int32.not_le, Int32.lt_iff_toInt_lt, nI_toInt (by omega)]
            have : (-1 : Int32).toInt = -1 := by decide
            omega
          | succ L =>
            rw [nsub1]
            exact nI_ge (by omega) (by omega)
        rw [if_neg hhi]
        refine bad m11 (Or.inl rfl) _ rfl ?_ ⟨fun k a b c d e => ?_, fun _ _ _ _ _ => rfl⟩
        · rw [hq, show nI p + 1 = nI (p + 1) from nadd _ 1]
          rfl
        · rw [va_up_ne _ _ d, va_up_ne _ _ c, va_up_ne _ _ a, va_up_ne _ _ b]
/-- 31 t l -/
theorem head_tag {g : Nat} {kd lb : Nat → Nat} {pt : Nat → Nat → Nat} {n q p m : Nat} {pl : Nat → Nat} {ns : List Nat} {iv : mI} {ar : mA} {la : mL} {pA pB : mA} {iw : mI} {aw : mA} (hrd : rd n q iv ar iw aw) (hm : m < 200) (hq : q = p + 1) (hg : g ≤ 200) (hGr : Gr g kd lb pt) (hCg : cG g kd lb pt iv ar) (hRg : rG g kd lb pt iw aw) (h31 : iw 31 = nI (m + 1)) (htx : ∀ j, j < n → pB 0 j = ar 800 j) :
    hOut g kd lb 31 n q p m pl ns iv ar la pA pB iw aw (mX7_readHead (nI p) (nI 31) (hdI pl ns) iv ar la pA pB) (ob (mX12_wants (nI 31) iw aw) (fun r101 iv101 ar101 => rHd (nI 31) (nI ns.length) (nI m) r101 iv101 ar101)) := by
  have hq2 : q ≤ 200 := Nat.le_trans hrd.2.1 hrd.1
  have eC : mX7_readHead (nI p) (nI 31) (hdI pl ns) iv ar la pA pB = obc (mX7_readTag (nI p) iv ar la pA pB) (fun r206 iv206 ar206 la206 pA206 pB206 => if r206 = 0 then some ((-1), iv206, ar206, la206, pA206, pB206) else some (1, iv206, ar206, la206, pA206, pB206)) := rfl
  have eR : ob (mX12_wants (nI 31) iw aw) (fun r101 iv101 ar101 => rHd (nI 31) (nI ns.length) (nI m) r101 iv101 ar101) = ob (mX12_readChoice (nI m) iw aw) (fun _ iv284 ar284 => mX12_readTermWord_J290 1 iv284 ar284) := rfl
  rw [eC, eR]
  have hmj := nI_inn (a := m) (N := 200) (by omega) (by omega)
  unfold mX7_readTag mX12_readChoice mX3_size
  rw [obce, hCg.1, r_part1 hm hRg.1 h31]
  rcases take_both hrd 0 (nI g - 1) la pA pB with ⟨v, hpn, hv, v1, v2, t1, t2⟩ | ⟨c, hcc, t1, t2⟩
  · obtain ⟨t, ht, rfl⟩ := btw1 (by omega) v1 v2
    have hrd2 : rd n (q + 1) (va_up (va_up iv 803 (nI t)) 802 (nI (q + 1))) ar (va_up iw 23 (nI (q + 1))) (au aw 34 m (nI t)) := rd_next hrd (by omega) rfl rfl rfl rfl rfl rfl (au_ne _ (by decide))
    obtain ⟨g1, g2, g3, g4, g5⟩ := hGr t ht
    obtain ⟨c1, c2, c3⟩ := hCg.2 t ht
    obtain ⟨r1, r2, r3⟩ := hRg.2 t ht
    rw [t1, t2, obce, obe, obe, if_neg (show ¬ (1 : Int32) = 0 by decide), if_pos (show (va_up iw 23 (nI (q + 1))) 24 = 0 from hrd.2.2.2.2.2.2.1), if_neg (by first | exact nI_in (by omega) (by omega) | exact nI_inn (by omega) (by omega)), ncl (by omega), au_self, if_neg (by first | exact nI_in (by omega) (by omega) | exact nI_inn (by omega) (by omega)), ncl (by omega)]
    unfold mX8_taken
    rw [obce, show (va_up (va_up iv 803 (nI t)) 802 (nI (q + 1))) 803 = nI t from rfl, c_kind4 (show (va_up (va_up iv 803 (nI t)) 802 (nI (q + 1))) 303 = nI g from hCg.1) (by omega) ht c1, obce, show (au aw 34 m (nI t)) 4 t = nI (kd t) from r1]
    by_cases e6 : kd t = 6
    · rw [e6, if_pos (show nI 6 = 6 from rfl), if_pos (show nI 6 = 6 from rfl)]
      rcases take_both hrd2 0 7 la pA pB with ⟨v, hpn2, hv2, v1, v2, t1, t2⟩ | ⟨c, hcc, t1, t2⟩
      · obtain ⟨l, l1, l2, rfl⟩ := nI_btw (a := 0) (b := 7) (by decide) v1 v2 (by decide)
        have hpt : mX3_partOf (nI t) (nI l) (va_up (va_up (va_up (va_up iv 803 (nI t)) 802 (nI (q + 1))) 803 (nI l)) 802 (nI (q + 1 + 1))) ar la pA pB = some (if l < 8 ∧ (lb t).testBit l = true then nI (pt t l) else m1, va_up (va_up (va_up (va_up iv 803 (nI t)) 802 (nI (q + 1))) 803 (nI l)) 802 (nI (q + 1 + 1)), ar, la, pA, pB) := c_partOf (by omega) (fun k hk => (hGr k hk).2.1) (show cG g kd lb pt (va_up (va_up (va_up (va_up iv 803 (nI t)) 802 (nI (q + 1))) 803 (nI l)) 802 (nI (q + 1 + 1))) ar from ⟨hCg.1, hCg.2⟩) ht (show l < 2147483648 by omega)
        rw [t1, t2, obce, obe, if_neg (show ¬ (1 : Int32) = 0 by decide), obce, show (va_up (va_up (va_up (va_up iv 803 (nI t)) 802 (nI (q + 1))) 803 (nI l)) 802 (nI (q + 1 + 1))) 803 = nI l from rfl, hpt, obce, if_neg hmj, if_pos (show (va_up (va_up iw 23 (nI (q + 1))) 23 (nI (q + 1 + 1))) 24 = 0 from hrd.2.2.2.2.2.2.1), if_neg hmj]
        have a34 : (au (au aw 34 m (nI t)) 35 m (nI l)) 34 m = nI t := by
          rw [au_ne _ (by decide), au_self]
        have a5 : (au (au aw 34 m (nI t)) 35 m (nI l)) 5 t = nI (lb t) := r2
        rw [a34, if_neg (nI_in (c := t) (N := 400) (by omega) (by decide)), if_neg hmj, au_self, ncl (show t < 2147483648 by omega), a5]
        by_cases eb : (lb t).testBit l = true
        · have hpt2 := g5 l (by omega) eb
          rw [if_pos (show l < 8 ∧ (lb t).testBit l = true from ⟨by omega, eb⟩), if_neg (show ¬ nI (pt t l) = -1 by rw [nm1ne (by omega)]; exact id), if_neg (show ¬ ((nI (lb t) >>> (nI l &&& 31)) &&& 1) = 0 by rw [bit_get0 g2 (by omega), eb]; simp), obce, if_neg (show ¬ (1 : Int32) = 0 by decide), obe]
          unfold mX12_readTermWord_J290
          rw [if_pos (show (va_up (va_up iw 23 (nI (q + 1))) 23 (nI (q + 1 + 1))) 24 = 0 from hrd.2.2.2.2.2.2.1)]
          refine Or.inr ⟨1, nI t, nI l, q + 2, _, _, _, _, rfl, rfl, by omega, rd_next hrd2 (by omega) rfl rfl rfl rfl rfl rfl (au_ne _ (by decide)), ?_, ?_, ⟨a34, au_self _ _ _ _⟩, fun k k1 k2 => by rw [au_ne _ k2, au_ne _ k1], fun i hi => ⟨?_, ?_⟩, Or.inl ⟨rfl, by decide⟩, fun k k1 k2 => by rw [va_up_ne _ _ k1, va_up_ne _ _ k2, va_up_ne _ _ k1, va_up_ne _ _ k2], fun k k1 => by rw [va_up_ne _ _ k1, va_up_ne _ _ k1]⟩
          · refine ⟨⟨by omega, by omega⟩, fun h => ?_, fun h => ?_, fun h => ?_, fun h => ?_, fun h => ?_, fun h => ?_, fun h => ?_, fun _ => ⟨rfl, t, l, ht, e6, by omega, eb, rfl, rfl⟩, fun h => ?_⟩ <;> exfalso <;> omega
          · have hn2 := hrd.1
            refine ⟨fun _ => ⟨by omega, ?_⟩, fun h => by omega, fun _ => ⟨by omega, ?_⟩⟩
            · rw [← hq, htx q (by omega), ← hv]
            · rw [show p + 2 = q + 1 by omega, htx (q + 1) (by omega), ← hv2]
          · rw [au_ne _ (by decide), au_ni _ hi]
          · rw [au_ni _ hi, au_ne _ (by decide)]
        · rw [if_neg (show ¬ (l < 8 ∧ (lb t).testBit l = true) from fun h => eb h.2), if_pos (show m1 = -1 from rfl), if_pos (show ((nI (lb t) >>> (nI l &&& 31)) &&& 1) = 0 by rw [bit_get0 g2 (by omega)]; simpa using eb)]
          unfold mX8_fail mX12_fail
          rw [obce, if_pos rfl, obce, if_pos rfl, obe, obe]
          unfold mX12_readTermWord_J290
          rw [if_neg (show ¬ (va_up (va_up (va_up (va_up (va_up iw 23 (nI (q + 1))) 23 (nI (q + 1 + 1))) 24 (-11)) 2 ((va_up (va_up iw 23 (nI (q + 1))) 23 (nI (q + 1 + 1))) 23 - 1)) 24 (-11)) 24 = 0 from (show ¬ (-11 : Int32) = 0 by decide))]
          refine Or.inl ⟨_, _, _, rfl, rfl, ⟨m11, nI (q + 1), Or.inl rfl, rfl, rfl, ?_, ?_⟩, ⟨fun k a b c d e => ?_, fun _ _ _ _ _ => rfl⟩, ⟨fun k a b c d e => ?_, fun k hk => ?_⟩⟩
          · rw [hq, show p + 1 + 1 = p + 2 by omega, ← show nI p + 2 = nI (p + 2) from nadd _ 2]
            rfl
          · exact nsub1 (q + 1)
          · rw [va_up_ne _ _ d, va_up_ne _ _ c, va_up_ne _ _ a, va_up_ne _ _ b, va_up_ne _ _ a, va_up_ne _ _ b]
          · rw [va_up_ne _ _ c, va_up_ne _ _ a, va_up_ne _ _ c, va_up_ne _ _ b, va_up_ne _ _ b]
          · rw [au_ne _ (by omega), au_ne _ (by omega)]
      · rw [t1, t2, obce, obe, if_pos rfl, obce, if_pos rfl, if_neg (by first | exact nI_in (by omega) (by omega) | exact nI_inn (by omega) (by omega)), if_neg (show ¬ (va_up (va_up (va_up iw 23 (nI (q + 1))) 24 c) 2 (nI (q + 1))) 24 = 0 from mc0 hcc), obe]
        unfold mX12_readTermWord_J290
        rw [if_neg (show ¬ (va_up (va_up (va_up iw 23 (nI (q + 1))) 24 c) 2 (nI (q + 1))) 24 = 0 from mc0 hcc)]
        refine Or.inl ⟨_, _, _, rfl, rfl, flu_of hcc, fA_t (fA_take iv ar (nI t) (nI (q + 1))) (fA_fail _ _ _ _), ⟨fun k a b c d e => ?_, fun k hk => ?_⟩⟩
        · rw [va_up_ne _ _ a, va_up_ne _ _ c, va_up_ne _ _ b]
        · rw [au_ne _ (by omega), au_ne _ (by omega)]
    · rw [if_neg (show ¬ nI (kd t) = 6 from fun h => e6 ((nI_eq (b := 6) (by omega) (by decide)).mp h)), if_neg (show ¬ nI (kd t) = 6 from fun h => e6 ((nI_eq (b := 6) (by omega) (by decide)).mp h))]
      unfold mX8_fail mX12_fail
      rw [obce, if_pos (Or.inl rfl), obce, if_pos rfl, obe, obe]
      unfold mX12_readTermWord_J290
      rw [if_neg (show ¬ (va_up (va_up (va_up (va_up iw 23 (nI (q + 1))) 24 (-11)) 2 ((va_up iw 23 (nI (q + 1))) 23 - 1)) 24 (-11)) 24 = 0 from (show ¬ (-11 : Int32) = 0 by decide))]
      refine Or.inl ⟨_, _, _, rfl, rfl, ⟨m11, nI q, Or.inl rfl, rfl, rfl, ?_, ?_⟩, ⟨fun k a b c d e => ?_, fun _ _ _ _ _ => rfl⟩, ⟨fun k a b c d e => ?_, fun k hk => ?_⟩⟩
      · rw [hq, ← show nI p + 1 = nI (p + 1) from nadd _ 1]
        rfl
      · exact nsub1 q
      · rw [va_up_ne _ _ d, va_up_ne _ _ c, va_up_ne _ _ a, va_up_ne _ _ b]
      · rw [va_up_ne _ _ c, va_up_ne _ _ a, va_up_ne _ _ c, va_up_ne _ _ b]
      · rw [au_ne _ (by omega)]
  · rw [t1, t2, obce, obe, obe, if_pos rfl, obce, if_pos rfl, if_neg (show ¬ (va_up (va_up iw 24 c) 2 (nI q)) 24 = 0 from mc0 hcc), obe]
    unfold mX12_readTermWord_J290
    rw [if_neg (show ¬ (va_up (va_up iw 24 c) 2 (nI q)) 24 = 0 from mc0 hcc)]
    exact Or.inl ⟨_, _, _, rfl, rfl, flu_of hcc, fA_fail _ _ _ _, fB_w (fB_fail _ _ _ _) _ (Or.inl rfl) _ _⟩
theorem head_both {g : Nat} {kd lb : Nat → Nat} {pt : Nat → Nat → Nat} {w n q p m M : Nat} {pl : Nat → Nat} {ns : List Nat} {iv : mI} {ar : mA} {la : mL} {pA pB : mA} {iw : mI} {aw : mA} (hrd : rd n q iv ar iw aw) (hw : 20 ≤ w ∧ w ≤ 33) (hm : m < 200) (hq : q = p + 1) (hg : g ≤ 200) (hGr : Gr g kd lb pt) (hCg : cG g kd lb pt iv ar) (hRg : rG g kd lb pt iw aw) (h31 : iw 31 = nI (m + 1)) (hns : ns.length ≤ 200) (hch : chC M pl pB ns) (hpl : ∀ h, h < M → pl h < 200) (htx : ∀ j, j < n → pB 0 j = ar 800 j) :
    hOut g kd lb w n q p m pl ns iv ar la pA pB iw aw (mX7_readHead (nI p) (nI w) (hdI pl ns) iv ar la pA pB) (ob (mX12_wants (nI w) iw aw) (fun r101 iv101 ar101 => rHd (nI w) (nI ns.length) (nI m) r101 iv101 ar101)) := by
  have hmi := nI_in (c := m) (N := 200) (by omega) (by decide)
  have hmj := nI_inn (a := m) (N := 200) (by omega) (by omega)
  have hmc := ncl (show m < 2147483648 by omega)
  have hn2 : n ≤ 200 := hrd.1
  have tx : ∀ v, v = ar 800 q → q < n → p + 1 < 200 ∧ pB 0 (p + 1) = v := fun v hv h => ⟨by omega, by rw [← hq, htx q h, hv]⟩
  rcases (show w = 20 ∨ w = 21 ∨ w = 22 ∨ w = 23 ∨ w = 24 ∨ w = 25 ∨ w = 26 ∨ w = 27 ∨ w = 28 ∨ w = 29 ∨ w = 30 ∨ w = 31 ∨ w = 32 ∨ w = 33 by omega) with rfl | rfl | rfl | rfl | rfl | rfl | rfl | rfl | rfl | rfl | rfl | rfl | rfl | rfl
  · exact head_var hrd hm hq hns hch hpl htx
  · refine head_one hrd 0 (nI g - 1) hm (by decide) true (fun _ => 1) ?_ ?_ (fun v hv h1 h2 h3 => ?_)
    · rw [← hCg.1]
      rfl
    · have e : ob (mX12_wants (nI 21) iw aw) (fun r101 iv101 ar101 => rHd (nI 21) (nI ns.length) (nI m) r101 iv101 ar101) = ob (mX12_takeNode iw aw) (fun _ iv199 ar199 => mX12_readTermWord_J290 1 iv199 ar199) := rfl
      rw [e, r_part1 hm hRg.1 h31]
      cases mX12_take 0 (nI g - 1) iw aw <;> rfl
    · obtain ⟨t, ht, rfl⟩ := btw1 (by omega) h2 h3
      refine ⟨1, rfl, ⟨⟨by omega, by omega⟩, fun h => ?_, fun _ => ⟨rfl, t, ht, rfl⟩, fun h => ?_, fun h => ?_, fun h => ?_, fun h => ?_, fun h => ?_, fun h => ?_, fun h => ?_⟩, ⟨fun _ => tx _ hv h1, fun h => by omega, fun h => by omega⟩⟩ <;> exfalso <;> omega
  · refine head_none hrd (by decide) 2 rfl rfl ?_ ⟨fun h => by omega, fun h => by omega, fun h => by omega⟩
    refine ⟨⟨by omega, by omega⟩, fun h => ?_, fun h => ?_, fun h => rfl, fun h => ?_, fun h => ?_, fun h => ?_, fun h => ?_, fun h => ?_, fun h => ?_⟩ <;> exfalso <;> omega
  · refine head_one hrd (-2147483648) 2147483647 hm (by decide) true (fun _ => 0) rfl ?_ (fun v hv h1 h2 h3 => ?_)
    · have e : ob (mX12_wants (nI 23) iw aw) (fun r101 iv101 ar101 => rHd (nI 23) (nI ns.length) (nI m) r101 iv101 ar101) = ob (mX12_take (-2147483648) 2147483647 iw aw) (fun r218 iv218 ar218 => if (nI m) < 0 ∨ 200 ≤ (nI m).toNatClampNeg then none else mX12_readTermWord_J290 0 iv218 (au ar218 34 (nI m).toNatClampNeg r218)) := rfl
      rw [e]
      simp only [hmc, if_neg hmj]
      rfl
    · refine ⟨0, rfl, ⟨⟨by omega, by omega⟩, fun h => ?_, fun h => ?_, fun h => ?_, fun h => rfl, fun h => ?_, fun h => ?_, fun h => ?_, fun h => ?_, fun h => ?_⟩, ⟨fun _ => tx _ hv h1, fun h => by omega, fun h => by omega⟩⟩ <;> exfalso <;> omega
  · refine head_none hrd (by decide) 2 rfl rfl ?_ ⟨fun h => by omega, fun h => by omega, fun h => by omega⟩
    refine ⟨⟨by omega, by omega⟩, fun h => ?_, fun h => ?_, fun h => rfl, fun h => ?_, fun h => ?_, fun h => ?_, fun h => ?_, fun h => ?_, fun h => ?_⟩ <;> exfalso <;> omega
  · refine head_none hrd (by decide) 2 rfl rfl ?_ ⟨fun h => by omega, fun h => by omega, fun h => by omega⟩
    refine ⟨⟨by omega, by omega⟩, fun h => ?_, fun h => ?_, fun h => rfl, fun h => ?_, fun h => ?_, fun h => ?_, fun h => ?_, fun h => ?_, fun h => ?_⟩ <;> exfalso <;> omega
  · refine head_none hrd (by decide) 0 rfl rfl ?_ ⟨fun h => by omega, fun h => by omega, fun h => by omega⟩
    refine ⟨⟨by omega, by omega⟩, fun h => ?_, fun h => ?_, fun h => ?_, fun h => rfl, fun h => ?_, fun h => ?_, fun h => ?_, fun h => ?_, fun h => ?_⟩ <;> exfalso <;> omega
  · refine head_none hrd (by decide) 0 rfl rfl ?_ ⟨fun h => by omega, fun h => by omega, fun h => by omega⟩
    refine ⟨⟨by omega, by omega⟩, fun h => ?_, fun h => ?_, fun h => ?_, fun h => rfl, fun h => ?_, fun h => ?_, fun h => ?_, fun h => ?_, fun h => ?_⟩ <;> exfalso <;> omega
  · refine head_none hrd (by decide) 3 rfl rfl ?_ ⟨fun h => by omega, fun h => by omega, fun h => by omega⟩
    refine ⟨⟨by omega, by omega⟩, fun h => ?_, fun h => ?_, fun h => ?_, fun h => ?_, fun h => rfl, fun h => ?_, fun h => ?_, fun h => ?_, fun h => ?_⟩ <;> exfalso <;> omega
  · refine head_one hrd 0 8 hm (by decide) true (fun v => v) rfl ?_ (fun v hv h1 h2 h3 => ?_)
    · have e : ob (mX12_wants (nI 29) iw aw) (fun r101 iv101 ar101 => rHd (nI 29) (nI ns.length) (nI m) r101 iv101 ar101) = ob (mX12_take 0 8 iw aw) (fun r218 iv218 ar218 => if (nI m) < 0 ∨ 200 ≤ (nI m).toNatClampNeg then none else mX12_readTermWord_J290 r218 iv218 (au ar218 34 (nI m).toNatClampNeg r218)) := rfl
      rw [e]
      simp only [hmc, if_neg hmj]
      rfl
    · obtain ⟨j, _, j2, rfl⟩ := nI_btw (a := 0) (b := 8) (by decide) h2 h3 (by decide)
      refine ⟨j, rfl, ⟨⟨by omega, by omega⟩, fun h => ?_, fun h => ?_, fun h => ?_, fun h => ?_, fun h => ?_, fun h => ⟨j2, rfl⟩, fun h => ?_, fun h => ?_, fun h => ?_⟩, ⟨fun h => by omega, fun h => by omega, fun h => by omega⟩⟩ <;> exfalso <;> omega
  · refine head_one hrd 0 7 hm (by decide) false (fun _ => 1) rfl ?_ (fun v hv h1 h2 h3 => ?_)
    · have e : ob (mX12_wants (nI 30) iw aw) (fun r101 iv101 ar101 => rHd (nI 30) (nI ns.length) (nI m) r101 iv101 ar101) = ob (mX12_take 0 7 iw aw) (fun r218 iv218 ar218 => if (nI m) < 0 ∨ 200 ≤ (nI m).toNatClampNeg then none else mX12_readTermWord_J290 1 iv218 (au ar218 35 (nI m).toNatClampNeg r218)) := rfl
      rw [e]
      simp only [hmc, if_neg hmj]
      rfl
    · obtain ⟨j, _, j2, rfl⟩ := nI_btw (a := 0) (b := 7) (by decide) h2 h3 (by decide)
      refine ⟨1, rfl, ⟨⟨by omega, by omega⟩, fun h => ?_, fun h => ?_, fun h => ?_, fun h => ?_, fun h => ?_, fun h => ?_, fun h => ⟨rfl, j, by omega, rfl⟩, fun h => ?_, fun h => ?_⟩, ⟨fun h => by omega, fun h => tx _ hv h1, fun h => by omega⟩⟩ <;> exfalso <;> omega
  · exact head_tag hrd hm hq hg hGr hCg hRg h31 htx
  · refine head_one hrd 0 8 hm (by decide) true (fun v => v + 1) rfl ?_ (fun v hv h1 h2 h3 => ?_)
    · have e : ob (mX12_wants (nI 32) iw aw) (fun r101 iv101 ar101 => rHd (nI 32) (nI ns.length) (nI m) r101 iv101 ar101) = ob (mX12_take 0 8 iw aw) (fun r218 iv218 ar218 => if (nI m) < 0 ∨ 200 ≤ (nI m).toNatClampNeg then none else mX12_readTermWord_J290 (r218 + 1) iv218 (au ar218 34 (nI m).toNatClampNeg r218)) := rfl
      rw [e]
      simp only [hmc, if_neg hmj]
      rfl
    · obtain ⟨j, _, j2, rfl⟩ := nI_btw (a := 0) (b := 8) (by decide) h2 h3 (by decide)
      refine ⟨j + 1, nadd j 1, ⟨⟨by omega, by omega⟩, fun h => ?_, fun h => ?_, fun h => ?_, fun h => ?_, fun h => ?_, fun h => ?_, fun h => ?_, fun h => ?_, fun h => ⟨by omega, by omega, rfl⟩⟩, ⟨fun h => by omega, fun h => by omega, fun h => by omega⟩⟩ <;> exfalso <;> omega
  · refine head_one hrd 0 (nI g - 1) hm (by decide) true (fun _ => 1) ?_ ?_ (fun v hv h1 h2 h3 => ?_)
    · rw [← hCg.1]
      rfl
    · have e : ob (mX12_wants (nI 33) iw aw) (fun r101 iv101 ar101 => rHd (nI 33) (nI ns.length) (nI m) r101 iv101 ar101) = ob (mX12_takeNode iw aw) (fun _ iv199 ar199 => mX12_readTermWord_J290 1 iv199 ar199) := rfl
      rw [e, r_part1 hm hRg.1 h31]
      cases mX12_take 0 (nI g - 1) iw aw <;> rfl
    · obtain ⟨t, ht, rfl⟩ := btw1 (by omega) h2 h3
      refine ⟨1, rfl, ⟨⟨by omega, by omega⟩, fun h => ?_, fun _ => ⟨rfl, t, ht, rfl⟩, fun h => ?_, fun h => ?_, fun h => ?_, fun h => ?_, fun h => ?_, fun h => ?_, fun h => ?_⟩, ⟨fun _ => tx _ hv h1, fun h => by omega, fun h => by omega⟩⟩ <;> exfalso <;> omega
