theorem turn_both {f0 g n p : Nat} {kd lb lr : Nat → Nat} {pt : Nat → Nat → Nat} {fs : List (Nat × Nat × Nat × Nat)} {iv : mI} {ar : mA} {iw : mI} {aw : mA} {la : mL} {pA pB : mA} (h : wst f0 g n p kd lb lr pt fs iv ar iw aw) (l2 : Int32) : tOut f0 n p iv ar la pA pB iw aw (mX9_readWord iv ar la pA pB) (fun K => ob (mX12_readWord iw aw) (fun r41 iv41 ar41 => if r41 < 0 then K l2 iv41 ar41 else if (iv41 24) = 0 then ob (mX12_settle r41 iv41 ar41) (fun r61 iv61 ar61 => K r61 iv61 ar61) else K l2 iv41 ar41)) := by
  obtain ⟨hrd, hok, hpg, hs, ⟨b1, b2, b3⟩, hno, hz⟩ := h
  have hm : mst f0 g n p kd lb lr pt True m1 fs iv ar iw aw := ⟨hrd, hok, hpg, hs, ⟨b1, b2, b3⟩, hz⟩
  have hp2 : p ≤ 200 := Nat.le_trans hrd.2.1 hrd.1
  have h8 := hrd.2.2.2.2.1
  have h23 := hrd.2.2.2.2.2.1
  have h24 := hrd.2.2.2.2.2.2.1
  unfold mX9_readWord mX12_readWord mX8_at
  rw [obce]
  rcases take_both hrd 1 9 la pA pB with ⟨v, hpn, -, v1, v2, t1, t2⟩ | ⟨c, hcc, t1, t2⟩
  · obtain ⟨w, w1, w2, rfl⟩ := nI_btw (a := 1) (b := 9) (by decide) v1 v2 (by decide)
    have hm2 := mst_take hm hpn (nI w)
    rw [t1, t2, obce, obe, if_neg (show ¬ (1 : Int32) = 0 by decide)]
    unfold mX8_taken
    rw [obce, show (va_up (va_up iv 803 (nI w)) 802 (nI (p + 1))) 803 = nI w from rfl, h8, h23]
    refine tOut_t (Nat.le_refl p) (fT_take f0 iv ar (nI w) (nI (p + 1))) (fU_take f0 iw aw (nI (p + 1))) ?_
    by_cases e8 : w = 8
    · subst e8
      rw [if_pos (show nI 8 = 8 from rfl), if_pos (show nI 8 = 8 from rfl)]
      exact tOut_01 (bind_turn hm2 hno (by omega) (Nat.lt_succ_self p) l2)
    · rw [if_neg (show ¬ nI w = 8 from fun e => by have := (nI_eq (b := 8) (by omega) (by decide)).mp e; omega), if_neg (show ¬ nI w = 8 from fun e => by have := (nI_eq (b := 8) (by omega) (by decide)).mp e; omega)]
      by_cases e9 : w = 9
      · subst e9
        rw [if_pos (show nI 9 = 9 from rfl), if_pos (show nI 9 = 9 from rfl)]
        exact tOut_01 (stand_turn hm2 (Nat.lt_succ_self p) (nI p) l2)
      · rw [if_neg (show ¬ nI w = 9 from fun e => by have := (nI_eq (b := 9) (by omega) (by decide)).mp e; omega), if_neg (show ¬ nI w = 9 from fun e => by have := (nI_eq (b := 9) (by omega) (by decide)).mp e; omega), if_pos (show (va_up iw 23 (nI (p + 1))) 24 = 0 from h24)]
        obtain ⟨K, rfl⟩ : ∃ K, w = K + 1 := ⟨w - 1, by omega⟩
        have eR : (if 5 ≤ nI (K + 1) then if nI (K + 1) = 5 then mX12_readWord_J90 (nI (K + 1)) 4 (va_up iw 23 (nI (p + 1))) aw else if nI (K + 1) = 6 then mX12_readWord_J90 (nI (K + 1)) 5 (va_up iw 23 (nI (p + 1))) aw else mX12_readWord_J90 (nI (K + 1)) 6 (va_up iw 23 (nI (p + 1))) aw else mX12_readWord_J90 (nI (K + 1)) (nI (K + 1) - 1) (va_up iw 23 (nI (p + 1))) aw) = mX12_readWord_J90 (nI (K + 1)) (nI K) (va_up iw 23 (nI (p + 1))) aw := by
          by_cases k5 : 4 ≤ K
          · rw [if_pos (show (5 : Int32) ≤ nI (K + 1) from nI_le (show 5 ≤ K + 1 by omega) (by omega))]
            rcases (show K = 4 ∨ K = 5 ∨ K = 6 by omega) with rfl | rfl | rfl
            · rw [if_pos (show nI (4 + 1) = 5 by decide)]
              rfl
            · rw [if_neg (show ¬ nI (5 + 1) = 5 by decide), if_pos (show nI (5 + 1) = 6 by decide)]
              rfl
            · rw [if_neg (show ¬ nI (6 + 1) = 5 by decide), if_neg (show ¬ nI (6 + 1) = 6 by decide)]
              rfl
          · rw [if_neg (show ¬ (5 : Int32) ≤ nI (K + 1) from nI_ge (show K + 1 < 5 by omega) (by decide)), nsub1]
        rw [eR, nsub1]
        exact tOut_01 (node_turn hm2 hno (by omega) (by omega) (Nat.lt_succ_self p) l2 (by omega))
  · rw [t1, t2, obce, obe, if_pos rfl, if_neg (show ¬ c = 8 by rcases hcc with rfl | rfl <;> decide), if_neg (show ¬ c = 9 by rcases hcc with rfl | rfl <;> decide), if_neg (show ¬ (va_up (va_up iw 24 c) 2 (nI p)) 24 = 0 from mc0 hcc)]
    refine Or.inl ⟨l2, _, _, _, _, rfl, fun K => ?_, flt_of hcc hpg.1 hpg.2.2.1 (by omega), fT_fail _ _ _ _ _, fU_fail _ _ _ _ _⟩
    dsimp only
    rw [obe, if_pos (show (-1 : Int32) < 0 by decide)]
/-- how reading ends: at a fault, or at the end of a type -/
def eOut (f0 n : Nat) (iv : mI) (ar : mA) (la : mL) (pA pB : mA) (iw : mI) (aw : mA) (L : Int32) (C : Option (Int32 × mI × mA × mL × mA × mA)) (R : Option (Int32 × mI × mA)) : Prop :=
  (∃ (x : Int32) (iv2 : mI) (ar2 : mA) (iw2 : mI) (aw2 : mA), C = some (0, iv2, ar2, la, pA, pB) ∧ R = mX12_type_J85 L x iw2 aw2 ∧ flt f0 iv2 iw2 ∧ fT f0 iv ar iv2 ar2 ∧ fU f0 iw aw iw2 aw2) ∨
  (∃ (g p2 : Nat) (kd lb lr : Nat → Nat) (pt : Nat → Nat → Nat) (iv2 : mI) (ar2 : mA) (iw2 : mI) (aw2 : mA), C = obc (mX8_takeEnd iv2 ar2 la pA pB) (fun r38 iv38 ar38 la38 pA38 pB38 => if r38 = 0 ∨ r38 = 1 then some (r38, iv38, ar38, la38, pA38, pB38) else none) ∧ R = mX12_type_J85 L (nI f0) iw2 aw2 ∧ rd n p2 iv2 ar2 iw2 aw2 ∧ pg f0 g kd lb lr pt [] iv2 ar2 iw2 aw2 ∧ g ≤ 400 ∧ (iv2 804 = m1 ∧ iv2 805 = m1 ∧ iw2 2 = m1) ∧ fT f0 iv ar iv2 ar2 ∧ fU f0 iw aw iw2 aw2)
theorem eOut_t {f0 n : Nat} {iv iv1 : mI} {ar ar1 : mA} {la : mL} {pA pB : mA} {iw iw1 : mI} {aw aw1 : mA} {L : Int32} {C : Option (Int32 × mI × mA × mL × mA × mA)} {R : Option (Int32 × mI × mA)} (h1 : fT f0 iv ar iv1 ar1) (h2 : fU f0 iw aw iw1 aw1) (h : eOut f0 n iv1 ar1 la pA pB iw1 aw1 L C R) : eOut f0 n iv ar la pA pB iw aw L C R := by
  rcases h with ⟨x, iv2, ar2, iw2, aw2, a1, a2, a3, a4, a5⟩ | ⟨g, p2, kd, lb, lr, pt, iv2, ar2, iw2, aw2, a1, a2, a3, a4, a5, a6, a7, a8⟩
  · exact Or.inl ⟨x, iv2, ar2, iw2, aw2, a1, a2, a3, fT_t h1 a4, fU_t h2 a5⟩
  · exact Or.inr ⟨g, p2, kd, lb, lr, pt, iv2, ar2, iw2, aw2, a1, a2, a3, a4, a5, a6, fT_t h1 a7, fU_t h2 a8⟩
theorem j65_flt {f0 : Nat} {iv : mI} {iw : mI} {aw : mA} {L x : Int32} {n : Nat} (h : flt f0 iv iw) : mX12_type_J65 (mX12_type_L29 (n + 1)) L x iw aw = mX12_type_J85 L x iw aw := by
  obtain ⟨c, w, hc, _, h24, _⟩ := h
  have h0 : ¬ iw 24 = 0 := by
    rw [h24]
    rcases hc with rfl | rfl | rfl | rfl <;> decide
  have e1 : mX12_type_L29 (n + 1) L x 1 iw aw = mX12_type_J85 L x iw aw := by
    rw [mX12_type_L29]
    rw [if_neg (show ¬ (1 : Int32) = 0 by decide), if_neg h0]
  have e2 : mX12_type_L29 (n + 1) L x 0 iw aw = mX12_type_J85 L x iw aw := by
    rw [mX12_type_L29]
    rw [if_pos rfl]
  unfold mX12_type_J65
  rw [e1, e2]
  by_cases a : 0 < iw 29
  · rw [if_pos a]
  · rw [if_neg a]
    by_cases b : 0 ≤ x
    · rw [if_pos b]
    · rw [if_neg b]
theorem read_loop {f0 n : Nat} {la : mL} {pA pB : mA} {L : Int32} : ∀ (d g p : Nat) (kd lb lr : Nat → Nat) (pt : Nat → Nat → Nat) (fs : List (Nat × Nat × Nat × Nat)) (iv : mI) (ar : mA) (iw : mI) (aw : mA) (t n1 n2 : Nat) (l2 : Int32), n - p ≤ d → d + 2 < n1 → d + 3 < n2 → t ≤ p → wst f0 g n p kd lb lr pt fs iv ar iw aw →
    eOut f0 n iv ar la pA pB iw aw L (obc (mX9_readWord iv ar la pA pB) (fun r22 iv22 ar22 la22 pA22 pB22 => if r22 = 0 then some (0, iv22, ar22, la22, pA22, pB22) else if (iv22 906) = 0 then obc (mX8_takeEnd iv22 ar22 la22 pA22 pB22) (fun r41 iv41 ar41 la41 pA41 pB41 => if r41 = 0 ∨ r41 = 1 then some (r41, iv41, ar41, la41, pA41, pB41) else none) else mX9_read_L7 n1 (nI t + 1) iv22 ar22 la22 pA22 pB22)) (mX12_type_L29 n2 L l2 1 iw aw) := by
  intro d
  induction d with
  | zero =>
    intro g p kd lb lr pt fs iv ar iw aw t n1 n2 l2 hd hn1 hn2 ht h
    have hpn : p = n := by have := h.1.2.1; omega
    obtain ⟨n2, rfl⟩ : ∃ k, n2 = k + 2 := ⟨n2 - 2, by omega⟩
    have hT := turn_both (la := la) (pA := pA) (pB := pB) h l2
    have eR : mX12_type_L29 (n2 + 2) L l2 1 iw aw = ob (mX12_readWord iw aw) (fun r41 iv41 ar41 => if r41 < 0 then mX12_type_J65 (mX12_type_L29 (n2 + 1)) L l2 iv41 ar41 else if (iv41 24) = 0 then ob (mX12_settle r41 iv41 ar41) (fun r61 iv61 ar61 => mX12_type_J65 (mX12_type_L29 (n2 + 1)) L r61 iv61 ar61) else mX12_type_J65 (mX12_type_L29 (n2 + 1)) L l2 iv41 ar41) := by
      rw [mX12_type_L29]
      rw [if_neg (show ¬ (1 : Int32) = 0 by decide), if_pos h.1.2.2.2.2.2.2.1]
    rw [eR]
    rcases hT with ⟨x, iv2, ar2, iw2, aw2, a1, a2, a3, a4, a5⟩ | ⟨g2, p3, kd2, lb2, lr2, pt2, iv2, ar2, iw2, aw2, a1, a2, a3, a4, a5, a6, a7, a8, a9, a10⟩ | ⟨x, m, ivm, arm, iv2, ar2, iw2, aw2, a1, a2, -⟩
    · refine Or.inl ⟨x, iv2, ar2, iw2, aw2, ?_, ?_, a3, a4, a5⟩
      · rw [a1, obce, if_pos rfl]
      · exact (a2 (mX12_type_J65 (mX12_type_L29 (n2 + 1)) L)).trans (j65_flt a3)
    · refine Or.inr ⟨g2, p3, kd2, lb2, lr2, pt2, iv2, ar2, iw2, aw2, ?_, ?_, a5, a6, a7, a8, a9, a10⟩
      · rw [a1, obce, if_neg (show ¬ (1 : Int32) = 0 by decide), if_pos (show iv2 906 = 0 from a3)]
      · refine (a2 (mX12_type_J65 (mX12_type_L29 (n2 + 1)) L)).trans ?_
        have hf0 : f0 < 2147483648 := by have := h.2.2.2.2.1.2.1; omega
        unfold mX12_type_J65
        rw [a4, if_neg (show ¬ (0 : Int32) < nI 0 by decide), if_pos (nI_pos' hf0)]
        rw [mX12_type_L29]
        rw [if_pos rfl]
    · omega
  | succ d ih =>
    intro g p kd lb lr pt fs iv ar iw aw t n1 n2 l2 hd hn1 hn2 ht h
    obtain ⟨n1, rfl⟩ : ∃ k, n1 = k + 1 := ⟨n1 - 1, by omega⟩
    obtain ⟨n2, rfl⟩ : ∃ k, n2 = k + 2 := ⟨n2 - 2, by omega⟩
    have hT := turn_both (la := la) (pA := pA) (pB := pB) h l2
    have eR : mX12_type_L29 (n2 + 2) L l2 1 iw aw = ob (mX12_readWord iw aw) (fun r41 iv41 ar41 => if r41 < 0 then mX12_type_J65 (mX12_type_L29 (n2 + 1)) L l2 iv41 ar41 else if (iv41 24) = 0 then ob (mX12_settle r41 iv41 ar41) (fun r61 iv61 ar61 => mX12_type_J65 (mX12_type_L29 (n2 + 1)) L r61 iv61 ar61) else mX12_type_J65 (mX12_type_L29 (n2 + 1)) L l2 iv41 ar41) := by
      rw [mX12_type_L29]
      rw [if_neg (show ¬ (1 : Int32) = 0 by decide), if_pos h.1.2.2.2.2.2.2.1]
    rw [eR]
    rcases hT with ⟨x, iv2, ar2, iw2, aw2, a1, a2, a3, a4, a5⟩ | ⟨g2, p3, kd2, lb2, lr2, pt2, iv2, ar2, iw2, aw2, a1, a2, a3, a4, a5, a6, a7, a8, a9, a10⟩ | ⟨x, m, ivm, arm, iv2, ar2, iw2, aw2, a1, a2, a3, a4, a5, a6, a7⟩
    · refine Or.inl ⟨x, iv2, ar2, iw2, aw2, ?_, ?_, a3, a4, a5⟩
      · rw [a1, obce, if_pos rfl]
      · exact (a2 (mX12_type_J65 (mX12_type_L29 (n2 + 1)) L)).trans (j65_flt a3)
    · refine Or.inr ⟨g2, p3, kd2, lb2, lr2, pt2, iv2, ar2, iw2, aw2, ?_, ?_, a5, a6, a7, a8, a9, a10⟩
      · rw [a1, obce, if_neg (show ¬ (1 : Int32) = 0 by decide), if_pos (show iv2 906 = 0 from a3)]
      · refine (a2 (mX12_type_J65 (mX12_type_L29 (n2 + 1)) L)).trans ?_
        have hf0 : f0 < 2147483648 := by have := h.2.2.2.2.1.2.1; omega
        unfold mX12_type_J65
        rw [a4, if_neg (show ¬ (0 : Int32) < nI 0 by decide), if_pos (nI_pos' hf0)]
        rw [mX12_type_L29]
        rw [if_pos rfl]
    · have hn2' : n ≤ 200 := h.1.1
      have eC : obc (mX9_readWord iv ar la pA pB) (fun r22 iv22 ar22 la22 pA22 pB22 => if r22 = 0 then some (0, iv22, ar22, la22, pA22, pB22) else if (iv22 906) = 0 then obc (mX8_takeEnd iv22 ar22 la22 pA22 pB22) (fun r41 iv41 ar41 la41 pA41 pB41 => if r41 = 0 ∨ r41 = 1 then some (r41, iv41, ar41, la41, pA41, pB41) else none) else mX9_read_L7 (n1 + 1) (nI t + 1) iv22 ar22 la22 pA22 pB22) = obc (mX9_readLabel ivm arm la pA pB) (fun r15 iv15 ar15 la15 pA15 pB15 => if r15 = 0 then some (0, iv15, ar15, la15, pA15, pB15) else obc (mX9_readWord iv15 ar15 la15 pA15 pB15) (fun r22 iv22 ar22 la22 pA22 pB22 => if r22 = 0 then some (0, iv22, ar22, la22, pA22, pB22) else if (iv22 906) = 0 then obc (mX8_takeEnd iv22 ar22 la22 pA22 pB22) (fun r41 iv41 ar41 la41 pA41 pB41 => if r41 = 0 ∨ r41 = 1 then some (r41, iv41, ar41, la41, pA41, pB41) else none) else mX9_read_L7 n1 (nI (t + 1) + 1) iv22 ar22 la22 pA22 pB22)) := by
        rw [a1, obce, if_neg (show ¬ (1 : Int32) = 0 by decide), a3, if_neg (show ¬ nI (m + 1) = 0 from fun e => by have := (nI_eq (b := 0) (by omega) (by decide)).mp e; omega)]
        rw [show nI t + 1 = nI (t + 1) from nadd _ 1]
        conv => lhs; rw [mX9_read_L7]
        rw [if_neg (show ¬ (200 : Int32) < nI (t + 1) from nI_nlt (show t + 1 ≤ 200 by omega) (by decide))]
      rw [eC]
      rcases a7 with ⟨b1, b2⟩ | ⟨b1, g2, p2, kd2, lb2, lr2, pt2, f, fs2, b2, b3⟩
      · refine Or.inl ⟨x, iv2, ar2, iw2, aw2, ?_, ?_, b2, a5, a6⟩
        · rw [b1, obce, if_pos rfl]
        · exact (a4 (mX12_type_J65 (mX12_type_L29 (n2 + 1)) L)).trans (j65_flt b2)
      · rw [b1, obce, if_neg (show ¬ (1 : Int32) = 0 by decide)]
        have eR2 : ob (mX12_readWord iw aw) (fun r41 iv41 ar41 => if r41 < 0 then mX12_type_J65 (mX12_type_L29 (n2 + 1)) L l2 iv41 ar41 else if (iv41 24) = 0 then ob (mX12_settle r41 iv41 ar41) (fun r61 iv61 ar61 => mX12_type_J65 (mX12_type_L29 (n2 + 1)) L r61 iv61 ar61) else mX12_type_J65 (mX12_type_L29 (n2 + 1)) L l2 iv41 ar41) = mX12_type_L29 (n2 + 1) L x 1 iw2 aw2 := by
          refine (a4 (mX12_type_J65 (mX12_type_L29 (n2 + 1)) L)).trans ?_
          unfold mX12_type_J65
          have h29 : iw2 29 = nI (fs2.length + 1) := b3.2.2.2.1.2.2.2
          have hlen : fs2.length + 1 ≤ p2 := b3.2.2.2.2.1.1
          have hp2n : p2 ≤ n := b3.1.2.1
          rw [h29, if_pos (show (0 : Int32) < nI (fs2.length + 1) from nI_lt (show 0 < fs2.length + 1 by omega) (by omega))]
        rw [eR2]
        exact eOut_t a5 a6 (ih g2 p2 kd2 lb2 lr2 pt2 (f :: fs2) iv2 ar2 iw2 aw2 (t + 1) n1 (n2 + 1) x (by omega) (by omega) (by omega) (by omega) b3)
