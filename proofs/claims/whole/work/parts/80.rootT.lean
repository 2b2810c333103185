def TT0 : TT := (fun _ => 0, fun _ => 0, fun _ => 0, fun _ => 0, fun _ => 0, fun _ => 0, fun _ _ => 0, fun _ _ => 0, fun _ => [], fun _ => 0, fun _ => 0)
theorem rootT {g : Nat} {kd lb : Nat → Nat} {pt : Nat → Nat → Nat} {n N : Nat} {iv : mI} {ar : mA} {la : mL} {pA pB : mA} {iw : mI} {aw : mA} (hg : g ≤ 200) (hGr : Gr g kd lb pt) (hCg : cG g kd lb pt iv ar) (hRg : rG g kd lb pt iw aw) (hrd : rd n 0 iv ar iw aw) (o1 : iv 707 = nI 0) (o2 : iw 48 = nI 0) (b4 : iw 31 = nI 0) (htx : ∀ j, j < n → pB 0 j = ar 800 j) (hz : iv 804 = m1 ∧ iv 805 = m1 ∧ iw 2 = m1) : uOut g kd lb n 0 (N + 1) iv ar la pA iw aw (mX7_readTerm iv ar la pA pB) (mX12_readTerms_L16 (N + 2) (nI 0) 0 1 iw aw) := by
  have hn200 : n ≤ 200 := hrd.1
  have h24 : iw 24 = 0 := hrd.2.2.2.2.2.2.1
  have h23 : iw 23 = nI 0 := hrd.2.2.2.2.2.1
  have eC : mX7_readTerm iv ar la pA pB = mX7_readTerm_J49 (nI 0) 33 20 iv ar la pA pB := by
    unfold mX7_readTerm mX8_at mX7_wordAround
    rw [obce, o1, if_pos (show nI 0 ≤ (0 : Int32) by decide), obce, if_neg (show ¬ (-1 : Int32) = 33 by decide), hrd.2.2.2.2.1]
    unfold mX7_readTerm_J22
    rw [if_pos rfl, if_pos rfl]
  have eR : mX12_readTermWord (nI 0) 0 iw aw = mX12_readTermWord_J28 (nI 0) (nI 0) 33 20 iw aw := by
    unfold mX12_readTermWord
    rw [h23, if_pos rfl, if_pos rfl]
  rw [J28_eq] at eR
  rw [eC]
  unfold mX7_readTerm_J49
  rcases take_both hrd 20 33 la pA pB with ⟨v, hpn, hv, v1, v2, t1, t2⟩ | ⟨c, hcc, t1, t2⟩
  · obtain ⟨w, w1, w2, rfl⟩ := nI_btw (a := 20) (b := 33) (by decide) v1 v2 (by decide)
    have fA1 : fA iv ar (va_up (va_up iv 803 (nI w)) 802 (nI (0 + 1))) ar := fA_take _ _ _ _
    have e31 : (va_up iw 23 (nI (0 + 1))) 31 = nI 0 := b4
    have hent : mX7_enter (nI 0) (va_up (va_up iv 803 (nI w)) 802 (nI (0 + 1))) ar la pA pB = some (hdI (va_up (fun _ => 0) 0 0) [], va_up (va_up iv 803 (nI w)) 802 (nI (0 + 1)), ar, la, pA, au pB 2 0 0) := by
      unfold mX7_enter mX6_addB
      rw [if_neg (nI_pos (by omega)), if_neg (show ¬ (200 : Int32) ≤ nI 0 by decide), if_neg (by first | exact nI_in (by omega) (by omega) | exact nI_inn (by omega) (by omega)), ncl (by omega), obce, if_neg (show ¬ (0 : Int32) ≤ (va_up (va_up iv 803 (nI w)) 802 (nI (0 + 1))) 707 - 1 by rw [show (va_up (va_up iv 803 (nI w)) 802 (nI (0 + 1))) 707 = 0 from o1]; decide)]
      rfl
    rw [t1, obce, if_neg (show ¬ (1 : Int32) = 0 by decide), hent, obce]
    unfold mX8_taken
    rw [obce, show (va_up (va_up iv 803 (nI w)) 802 (nI (0 + 1))) 803 = nI w from rfl]
    rw [t2, obe, if_pos (show (va_up iw 23 (nI (0 + 1))) 24 = 0 from h24), e31, if_neg (by first | exact nI_in (by omega) (by omega) | exact nI_inn (by omega) (by omega)), ncl (by omega), show nI 0 + 1 = nI (0 + 1) from nadd _ 1] at eR
    have hrdq : rd n (0 + 1) (va_up (va_up iv 803 (nI w)) 802 (nI (0 + 1))) ar (va_up (va_up iw 23 (nI (0 + 1))) 31 (nI (0 + 1))) (au (au (au (au (au aw 32 0 (nI w)) 33 0 (nI 0)) 34 0 0) 35 0 0) 38 0 0) := rd_next hrd (by omega) rfl rfl rfl rfl rfl rfl (by rw [au_ne _ (by decide), au_ne _ (by decide), au_ne _ (by decide), au_ne _ (by decide), au_ne _ (by decide)])
    have fB1 : fB iw aw (va_up (va_up iw 23 (nI (0 + 1))) 31 (nI (0 + 1))) (au (au (au (au (au aw 32 0 (nI w)) 33 0 (nI 0)) 34 0 0) 35 0 0) 38 0 0) := ⟨fun k a b c d e => by rw [va_up_ne _ _ d, va_up_ne _ _ b], fun k hk => by rw [au_ne _ (by omega), au_ne _ (by omega), au_ne _ (by omega), au_ne _ (by omega), au_ne _ (by omega)]⟩
    have hH := head_both (pl := va_up (fun _ => 0) 0 0) (M := 0) (m := 0) (p := 0) (ns := []) (la := la) (pA := pA) (pB := au pB 2 0 0) hrdq ⟨w1, w2⟩ (by omega) rfl hg hGr (cG_fA fA1 hCg) (rG_fB fB1 hRg) rfl (by simp) trivial (fun h hh => absurd hh (Nat.not_lt_zero h)) (fun j hj => htx j hj)
    refine uOut_t (Nat.le_refl 0) fA1 fB1 ?_
    rcases hH with ⟨iv2, iw2, aw2, h1, h2, h3, h4, h5⟩ | ⟨nk, f1, f2, q, iv2, iw2, aw2, pB3, h1, h2, h3, h4, h5, h6, h7, h8, h9', h10, h11, h12⟩
    · rw [show ([] : List Nat).length = 0 from rfl] at h2
      rw [h2] at eR
      rw [r_flt16 (x := 0) h24 eR (flu0 h3), h1, obce, if_pos rfl]
      exact Or.inl ⟨iv2, ar, _, iw2, aw2, rfl, rfl, h3, h4, h5⟩
    · rw [show ([] : List Nat).length = 0 from rfl] at h2
      rw [h2] at eR
      have hnk9 := hOK9 h5
      have hpB : pB3 = au pB 2 0 0 ∧ w ≠ 20 := by
        rcases h10 with e | ⟨_, j, hh, _, e, _⟩
        · exact e
        · simp at e
      obtain ⟨rfl, hw20⟩ := hpB
      rw [h1, obce, if_neg (show ¬ nI nk = -1 by rw [nm1ne (by omega)]; exact id)]
      have h24' : iw2 24 = 0 := h4.2.2.2.2.2.2.1
      have h48 : iw2 48 = nI 0 := by rw [h12 _ (by decide)]; exact o2
      have e16 : mX12_readTerms_L16 (N + 2) (nI 0) 0 1 iw aw = mX12_readTerms_J99 (mX12_readTerms_L16 (N + 1)) (nI 0) 0 (nI 0) (nI nk) iw2 aw2 := by
        rw [mX12_readTerms_L16]
        rw [if_neg (show ¬ (1 : Int32) = 0 by decide), if_pos h24, eR, obe, if_pos h24', h48, if_pos (show nI 0 ≤ (0 : Int32) by decide), b4]
      rw [e16]
      refine uOut_t (Nat.le_refl 0) (⟨fun k a b c d e => h11 k a b, fun _ _ _ _ _ => rfl⟩ : fA (va_up (va_up iv 803 (nI w)) 802 (nI (0 + 1))) ar iv2 ar) (⟨fun k a b c d e => h12 k b, fun j hj => h8 _ (by omega) (by omega)⟩ : fB (va_up (va_up iw 23 (nI (0 + 1))) 31 (nI (0 + 1))) (au (au (au (au (au aw 32 0 (nI w)) 33 0 (nI 0)) 34 0 0) 35 0 0) 38 0 0) iw2 aw2) ?_
      have x0 : ∀ x, x < 0 + 1 → x = 0 := fun x hx => by omega
      exact endT (g := g) (kd := kd) (lb := lb) (N := N) (m := 0) (nk := nk) (p := 0) (p0 := 0) (q := q) (n := n) (T := tAdd TT0 0 w 0 f1 f2 nk [] 1 0) (dn := fun _ => 0) (osP := []) (iv := iv2) (ar := ar) (la := la) (pA := pA) (pB := au pB 2 0 0) (iw := iw2) (aw := aw2) (f := 0) h4
        (fun os2 i1 i2 x hx => by
          rw [x0 x hx]
          refine ⟨⟨h5, Nat.le_refl 0, by show (0 : Nat) < 200; omega⟩, ⟨fun hn => ?_, Nat.zero_le _⟩, fun i hi => absurd hi (Nat.not_lt_zero i)⟩
          show 0 = nk
          by_cases e : nk = 0
          · exact e.symm
          · exact absurd (i2 e) hn)
        ⟨fun j k hjk hk => by omega, fun x hx => by
          rw [x0 x hx]
          refine ⟨⟨?_, h6, rfl⟩, fun i hi => absurd hi (Nat.not_lt_zero i), trivial, fun h => absurd h hw20⟩
          show pB 0 0 = nI w
          rw [htx 0 hpn, ← hv]⟩
        (fun x hx => by
          rw [x0 x hx]
          refine ⟨⟨?_, ?_, h7.1, h7.2, ?_⟩, fun i hi => absurd hi (Nat.not_lt_zero i)⟩
          · rw [h8 _ (by decide) (by decide)]; rfl
          · rw [h8 _ (by decide) (by decide)]; rfl
          · rw [h8 _ (by decide) (by decide)]; rfl)
        rfl trivial trivial rfl rfl rfl (by rw [h11 _ (by decide) (by decide)]; exact o1) h48 (by rw [h12 _ (by decide)]; rfl) (by omega) (by show 0 + 1 ≤ q; omega) (fun x hx => by rw [x0 x hx]; show 0 < q; omega) (fun j hj => htx j hj) ⟨by rw [h11 _ (by decide) (by decide)]; exact hz.1, by rw [h11 _ (by decide) (by decide)]; exact hz.2.1, by rw [h12 _ (by decide)]; exact hz.2.2⟩ (by omega) rfl
  · rw [t2, obe, if_neg (show ¬ (va_up (va_up iw 24 c) 2 (nI 0)) 24 = 0 from mc0 hcc)] at eR
    rw [t1, obce, if_pos rfl, r_flt16 (x := 0) h24 eR (mc0 hcc)]
    exact Or.inl ⟨_, _, _, _, _, rfl, rfl, flu_of hcc, fA_fail _ _ _ _, fB_fail _ _ _ _⟩
/-- how reading a term ends -/
def vOut (g : Nat) (kd lb : Nat → Nat) (n : Nat) (iv : mI) (ar : mA) (la : mL) (pA : mA) (iw : mI) (aw : mA) (C : Option (Int32 × mI × mA × mL × mA × mA)) (R : Option (Int32 × mI × mA)) : Prop :=
  (∃ (iv2 : mI) (ar2 : mA) (pB2 : mA) (iw2 : mI) (aw2 : mA), C = some (0, iv2, ar2, la, pA, pB2) ∧ R = some (0, iw2, aw2) ∧ flu iv2 iw2 ∧ fA iv ar iv2 ar2 ∧ fB iw aw iw2 aw2) ∨
  (∃ (m2 p2 : Nat) (T2 : TT) (iv2 : mI) (ar2 : mA) (pB2 : mA) (iw2 : mI) (aw2 : mA), C = obc (mX8_takeEnd iv2 ar2 la pA pB2) (fun r57 iv57 ar57 la57 pA57 pB57 => if r57 = 0 ∨ r57 = 1 then some (r57, iv57, ar57, la57, pA57, pB57) else none) ∧ R = some (0, iw2, aw2) ∧ (0 < m2 ∧ tPl T2 0 = 0) ∧ tBo g kd lb n p2 m2 T2 [] iv2 ar2 pB2 iw2 aw2 ∧ fA iv ar iv2 ar2 ∧ fB iw aw iw2 aw2)
theorem vOut_t {g : Nat} {kd lb : Nat → Nat} {n : Nat} {iv iv1 : mI} {ar ar1 : mA} {la : mL} {pA : mA} {iw iw1 : mI} {aw aw1 : mA} {C : Option (Int32 × mI × mA × mL × mA × mA)} {R : Option (Int32 × mI × mA)} (h1 : fA iv ar iv1 ar1) (h2 : fB iw aw iw1 aw1) (h : vOut g kd lb n iv1 ar1 la pA iw1 aw1 C R) : vOut g kd lb n iv ar la pA iw aw C R := by
  rcases h with ⟨iv2, ar2, pB2, iw2, aw2, a1, a2, a3, a4, a5⟩ | ⟨m2, p2, T2, iv2, ar2, pB2, iw2, aw2, a1, a2, a3, a4, a5, a6⟩
  · exact Or.inl ⟨iv2, ar2, pB2, iw2, aw2, a1, a2, a3, fA_t h1 a4, fB_t h2 a5⟩
  · exact Or.inr ⟨m2, p2, T2, iv2, ar2, pB2, iw2, aw2, a1, a2, a3, a4, fA_t h1 a5, fB_t h2 a6⟩
theorem stepT {g : Nat} {kd lb : Nat → Nat} {n p N n1 t : Nat} {iv : mI} {ar : mA} {la : mL} {pA : mA} {iw : mI} {aw : mA} {C : Option (Int32 × mI × mA × mL × mA × mA)} {R : Option (Int32 × mI × mA)} (hn : n ≤ 200) (ht : t ≤ p) (hU : uOut g kd lb n p N iv ar la pA iw aw C R)
    (ih : ∀ (p2 m2 : Nat) (T2 : TT) (dn : Nat → Nat) (k : Nat) (os : List Nat) (iv2 : mI) (ar2 : mA) (pB2 : mA) (iw2 : mI) (aw2 : mA), p < p2 → tPl T2 0 = 0 → fA iv ar iv2 ar2 → fB iw aw iw2 aw2 → tBo g kd lb n p2 m2 T2 (k :: os) iv2 ar2 pB2 iw2 aw2 → tWk p2 m2 T2 dn k os ar2 aw2 → vOut g kd lb n iv2 ar2 la pA iw2 aw2 (obc (mX7_readTerm iv2 ar2 la pA pB2) (fun r38 iv38 ar38 la38 pA38 pB38 => if r38 = 0 then some (0, iv38, ar38, la38, pA38, pB38) else if (iv38 707) = 0 then obc (mX8_takeEnd iv38 ar38 la38 pA38 pB38) (fun r57 iv57 ar57 la57 pA57 pB57 => if r57 = 0 ∨ r57 = 1 then some (r57, iv57, ar57, la57, pA57, pB57) else none) else mX7_read_L23 n1 (nI (t + 1) + 1) iv38 ar38 la38 pA38 pB38)) (mX12_readTerms_L16 N (nI (tNs T2 k (dn k) m2).length) (tWf T2 k) 1 iw2 aw2)) :
    vOut g kd lb n iv ar la pA iw aw (obc C (fun r38 iv38 ar38 la38 pA38 pB38 => if r38 = 0 then some (0, iv38, ar38, la38, pA38, pB38) else if (iv38 707) = 0 then obc (mX8_takeEnd iv38 ar38 la38 pA38 pB38) (fun r57 iv57 ar57 la57 pA57 pB57 => if r57 = 0 ∨ r57 = 1 then some (r57, iv57, ar57, la57, pA57, pB57) else none) else mX7_read_L23 (n1 + 1) (nI t + 1) iv38 ar38 la38 pA38 pB38)) R := by
  rcases hU with ⟨iv2, ar2, pB2, iw2, aw2, a1, a2, a3, a4, a5⟩ | ⟨m2, p2, T2, iv2, ar2, pB2, iw2, aw2, a1, a2, a3, a4, a5, a6, a7⟩ | ⟨len, ivm, arm, pB1, iv2, ar2, iw2, aw2, a1, a2, a3, a4, a5, a6⟩
  · exact Or.inl ⟨iv2, ar2, pB2, iw2, aw2, by rw [a1, obce, if_pos rfl], a2, a3, a4, a5⟩
  · exact Or.inr ⟨m2, p2, T2, iv2, ar2, pB2, iw2, aw2, by rw [a1, obce, if_neg (show ¬ (1 : Int32) = 0 by decide), if_pos (show iv2 707 = 0 from a3)], a2, a4, a5, a6, a7⟩
  · have eC : obc C (fun r38 iv38 ar38 la38 pA38 pB38 => if r38 = 0 then some (0, iv38, ar38, la38, pA38, pB38) else if (iv38 707) = 0 then obc (mX8_takeEnd iv38 ar38 la38 pA38 pB38) (fun r57 iv57 ar57 la57 pA57 pB57 => if r57 = 0 ∨ r57 = 1 then some (r57, iv57, ar57, la57, pA57, pB57) else none) else mX7_read_L23 (n1 + 1) (nI t + 1) iv38 ar38 la38 pA38 pB38) = obc (mX7_readLabel ivm arm la pA pB1) (fun r31 iv31 ar31 la31 pA31 pB31 => if r31 = 0 then some (0, iv31, ar31, la31, pA31, pB31) else obc (mX7_readTerm iv31 ar31 la31 pA31 pB31) (fun r38 iv38 ar38 la38 pA38 pB38 => if r38 = 0 then some (0, iv38, ar38, la38, pA38, pB38) else if (iv38 707) = 0 then obc (mX8_takeEnd iv38 ar38 la38 pA38 pB38) (fun r57 iv57 ar57 la57 pA57 pB57 => if r57 = 0 ∨ r57 = 1 then some (r57, iv57, ar57, la57, pA57, pB57) else none) else mX7_read_L23 n1 (nI (t + 1) + 1) iv38 ar38 la38 pA38 pB38)) := by
      rw [a1, obce, if_neg (show ¬ (1 : Int32) = 0 by decide), a3, if_neg (show ¬ nI (len + 1) = 0 from fun e => by have := (nI_eq (b := 0) (by omega) (by decide)).mp e; omega)]
      rw [show nI t + 1 = nI (t + 1) from nadd _ 1]
      conv => lhs; rw [mX7_read_L23]
      rw [if_neg (show ¬ (200 : Int32) < nI (t + 1) from nI_nlt (show t + 1 ≤ 200 by omega) (by decide))]
    rw [eC]
    rcases a6 with ⟨b1, b2, b3⟩ | ⟨b1, p2, m2, T2, dn, k, os, b2, b3, b4, b5⟩
    · exact Or.inl ⟨iv2, ar2, pB1, iw2, aw2, by rw [b1, obce, if_pos rfl], b2, b3, a4, a5⟩
    · rw [b1, obce, if_neg (show ¬ (1 : Int32) = 0 by decide), b5]
      exact vOut_t a4 a5 (ih p2 m2 T2 dn k os iv2 ar2 pB1 iw2 aw2 b2.1 b2.2 a4 a5 b3 b4)
theorem loopT {g : Nat} {kd lb : Nat → Nat} {pt : Nat → Nat → Nat} {n : Nat} {la : mL} {pA : mA} (hg : g ≤ 200) (hGr : Gr g kd lb pt) (hn : n ≤ 200) : ∀ (d p m : Nat) (T : TT) (dn : Nat → Nat) (k : Nat) (os : List Nat) (iv : mI) (ar : mA) (pB : mA) (iw : mI) (aw : mA) (t n1 N : Nat), n - p ≤ d → d < n1 → d + 2 < N → t ≤ p → cG g kd lb pt iv ar → rG g kd lb pt iw aw → tBo g kd lb n p m T (k :: os) iv ar pB iw aw → tWk p m T dn k os ar aw → tPl T 0 = 0 → vOut g kd lb n iv ar la pA iw aw (obc (mX7_readTerm iv ar la pA pB) (fun r38 iv38 ar38 la38 pA38 pB38 => if r38 = 0 then some (0, iv38, ar38, la38, pA38, pB38) else if (iv38 707) = 0 then obc (mX8_takeEnd iv38 ar38 la38 pA38 pB38) (fun r57 iv57 ar57 la57 pA57 pB57 => if r57 = 0 ∨ r57 = 1 then some (r57, iv57, ar57, la57, pA57, pB57) else none) else mX7_read_L23 n1 (nI t + 1) iv38 ar38 la38 pA38 pB38)) (mX12_readTerms_L16 N (nI (tNs T k (dn k) m).length) (tWf T k) 1 iw aw) := by
  intro d
  induction d with
  | zero =>
    intro p m T dn k os iv ar pB iw aw t n1 N hd h1 h2 ht hC hR hB hW hz
    obtain ⟨n1, rfl⟩ : ∃ x, n1 = x + 1 := ⟨n1 - 1, by omega⟩
    obtain ⟨N, rfl⟩ : ∃ x, N = x + 2 := ⟨N - 2, by omega⟩
    refine stepT hn ht (turnT hg hGr hC hR hB hW hz) (fun p2 m2 T2 dn2 k2 os2 iv2 ar2 pB2 iw2 aw2 hp _ _ _ hB2 _ => ?_)
    have := hB2.1.2.1
    omega
  | succ d ihd =>
    intro p m T dn k os iv ar pB iw aw t n1 N hd h1 h2 ht hC hR hB hW hz
    obtain ⟨n1, rfl⟩ : ∃ x, n1 = x + 1 := ⟨n1 - 1, by omega⟩
    obtain ⟨N, rfl⟩ : ∃ x, N = x + 2 := ⟨N - 2, by omega⟩
    exact stepT hn ht (turnT hg hGr hC hR hB hW hz) (fun p2 m2 T2 dn2 k2 os2 iv2 ar2 pB2 iw2 aw2 hp hz2 f1 f2 hB2 hW2 => ihd p2 m2 T2 dn2 k2 os2 iv2 ar2 pB2 iw2 aw2 (t + 1) n1 (N + 1) (by omega) (by omega) (by omega) (by omega) (cG_fA f1 hC) (rG_fB f2 hR) hB2 hW2 hz2)
