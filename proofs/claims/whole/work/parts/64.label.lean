/-- before a word of a type is read -/
def wst (f0 g n p : Nat) (kd lb lr : Nat → Nat) (pt : Nat → Nat → Nat) (fs : List (Nat × Nat × Nat × Nat)) (iv : mI) (ar : mA) (iw : mI) (aw : mA) : Prop := rd n p iv ar iw aw ∧ okF f0 g kd lb lr True fs ∧ pg f0 g kd lb lr pt fs iv ar iw aw ∧ (stC ar fs ∧ stR g m1 aw fs ∧ iv 906 = nI fs.length ∧ iw 29 = nI fs.length) ∧ (fs.length ≤ p ∧ f0 ≤ 200 ∧ g ≤ f0 + p) ∧ (noN fs → g = f0) ∧ iv 804 = m1 ∧ iv 805 = m1 ∧ iw 2 = m1
/-- before the label of a node's next part is read -/
def lws (f0 g n p : Nat) (kd lb lr : Nat → Nat) (pt : Nat → Nat → Nat) (y lf l : Nat) (fs : List (Nat × Nat × Nat × Nat)) (iv : mI) (ar : mA) (iw : mI) (aw : mA) : Prop := rd n p iv ar iw aw ∧ lst f0 g kd lb lr y lf l fs ∧ pg f0 g kd lb lr pt ((0, y, lf, l) :: fs) iv ar iw aw ∧ (stC ar ((0, y, lf, l) :: fs) ∧ stR g m1 aw ((0, y, lf, l) :: fs) ∧ iv 906 = nI (fs.length + 1) ∧ iw 29 = nI (fs.length + 1)) ∧ (fs.length + 1 ≤ p ∧ f0 ≤ 200 ∧ g ≤ f0 + p) ∧ iv 804 = m1 ∧ iv 805 = m1 ∧ iw 2 = m1
/-- a fault of the text, in both -/
def flt (f0 : Nat) (iv : mI) (iw : mI) : Prop := ∃ c w : Int32, (c = m11 ∨ c = m12 ∨ c = m13 ∨ c = m14) ∧ iv 804 = c ∧ iw 24 = c ∧ iv 805 = w ∧ iw 2 = w ∧ ∃ g, f0 ≤ g ∧ g ≤ 400 ∧ iv 303 = nI g
theorem rd_next {n p : Nat} {iv iv2 : mI} {ar ar2 : mA} {iw iw2 : mI} {aw aw2 : mA} (h : rd n p iv ar iw aw) {q : Nat} (hq : q ≤ n) (e1 : iv2 801 = iv 801) (e2 : iw2 0 = iw 0) (e3 : iv2 802 = nI q) (e4 : iw2 23 = nI q) (e5 : iw2 24 = iw 24) (e6 : ar2 800 = ar 800) (e7 : aw2 1 = aw 1) : rd n q iv2 ar2 iw2 aw2 := by
  obtain ⟨h1, h2, h3, h4, h5, h6, h7, h8⟩ := h
  exact ⟨h1, hq, by rw [e1]; exact h3, by rw [e2]; exact h4, e3, e4, by rw [e5]; exact h7, by rw [e6, e7]; exact h8⟩
theorem c_kind4 {g y K : Nat} {iv : mI} {ar : mA} {la : mL} {pA pB : mA} (h : iv 303 = nI g) (hg : g ≤ 400) (hy : y < g) (h4 : ar 300 y = nI K) : mX3_kindOf (nI y) iv ar la pA pB = some (nI K, iv, ar, la, pA, pB) := by
  unfold mX3_kindOf
  rw [if_neg (nI_pos (by omega)), h, if_neg (nI_ge hy (by omega)), if_neg (by first | exact nI_in (by omega) (by omega) | exact nI_inn (by omega) (by omega)), ncl (by omega), h4]
theorem label_both {f0 g n p : Nat} {kd lb lr : Nat → Nat} {pt : Nat → Nat → Nat} {y lf l : Nat} {fs : List (Nat × Nat × Nat × Nat)} {iv : mI} {ar : mA} {iw : mI} {aw : mA} {la : mL} {pA pB : mA} (h : lws f0 g n p kd lb lr pt y lf l fs iv ar iw aw) :
    ∃ (iv2 : mI) (ar2 : mA) (iw2 : mI) (aw2 : mA), mX12_takeLabel iw aw = some (0, iw2, aw2) ∧ fT f0 iv ar iv2 ar2 ∧ fU f0 iw aw iw2 aw2 ∧ ((mX9_readLabel iv ar la pA pB = some (0, iv2, ar2, la, pA, pB) ∧ flt f0 iv2 iw2) ∨ (mX9_readLabel iv ar la pA pB = some (1, iv2, ar2, la, pA, pB) ∧ ∃ (p2 l2 : Nat) (lr2 : Nat → Nat), p ≤ p2 ∧ wst f0 g n p2 kd lb lr2 pt ((0, y, lf, l2) :: fs) iv2 ar2 iw2 aw2)) := by
  obtain ⟨hrd, ⟨⟨k1, k2, k3, k4, k5, k6, k7, k8⟩, hok⟩, hpg, ⟨⟨⟨c1, c2, c3, c4⟩, hc⟩, ⟨⟨r1, r2, r3⟩, hr⟩, o1, o2⟩, ⟨b1, b2, b3⟩, z1, z2, z3⟩ := h
  obtain ⟨r3, r4⟩ := r3 rfl
  rw [if_pos k1] at r1
  have hp : p ≤ 200 := Nat.le_trans hrd.2.1 hrd.1
  have hL : fs.length < 200 := by omega
  obtain ⟨p1, p2, p3, p4⟩ := hpg
  obtain ⟨⟨q1, q2, q3, q4, q5, q6⟩, q7, q8⟩ := p4 y k1
  have hno : ∀ l2, ¬ noN ((0, y, lf, l2) :: fs) := fun l2 h => h _ List.mem_cons_self rfl
  -- the class and the reference up to the branch by the kind
  have hC : mX9_readLabel iv ar la pA pB = if kd y = 4 then some ((1 : Int32), iv, au ar 905 fs.length (nI l), la, pA, pB) else obc (mX8_take (nI l) 7 iv ar la pA pB) (fun r66 iv66 ar66 la66 pA66 pB66 => if r66 = 0 then some (0, iv66, ar66, la66, pA66, pB66) else some (1, iv66, au ar66 905 fs.length (iv66 803), la66, pA66, pB66)) := by
    have el : nI l - 1 + 1 = nI l := by rw [Int32.sub_add_cancel]
    unfold mX9_readLabel
    rw [o1, nsub1, if_neg (nI_pos (by omega)), if_neg (by first | exact nI_in (by omega) (by omega) | exact nI_inn (by omega) (by omega)), ncl (by omega), c2, if_pos m0l, if_neg (by first | exact nI_in (by omega) (by omega) | exact nI_inn (by omega) (by omega)), c1, c_kind4 p1 (by omega) k1 q3, obce, c4, el]
    by_cases e : kd y = 4
    · rw [if_pos e, e, if_pos (show nI 4 = 4 from rfl), if_neg (by first | exact nI_in (by omega) (by omega) | exact nI_inn (by omega) (by omega)), if_neg (by first | exact nI_in (by omega) (by omega) | exact nI_inn (by omega) (by omega))]
    · rw [if_neg e, if_neg (show ¬ nI (kd y) = 4 from fun h => e ((nI_eq (by omega) (by decide)).mp h)), if_neg (by first | exact nI_in (by omega) (by omega) | exact nI_inn (by omega) (by omega))]
      congr 1
      funext r66 iv66 ar66 la66 pA66 pB66
      by_cases e0 : r66 = 0
      · rw [if_pos e0, if_pos e0]
      · rw [if_neg e0, if_neg e0]
        unfold mX8_taken
        rw [obce, if_neg (by first | exact nI_in (by omega) (by omega) | exact nI_inn (by omega) (by omega))]
  have hR : mX12_takeLabel iw aw = if kd y = 4 then some ((0 : Int32), iw, au aw 28 fs.length (nI l)) else ob (mX12_take (nI l) 7 iw aw) (fun r53 iv53 ar53 => if (iv53 24) = 0 then (if (ar53 25 fs.length) < 0 ∨ 400 ≤ (ar53 25 fs.length).toNatClampNeg then none else some ((0 : Int32), iv53, au (au ar53 28 fs.length r53) 5 (ar53 25 fs.length).toNatClampNeg ((ar53 5 (ar53 25 fs.length).toNatClampNeg) ||| (1 <<< (r53 &&& 31))))) else some ((0 : Int32), iv53, au ar53 28 fs.length r53)) := by
    have el : nI l - 1 + 1 = nI l := by rw [Int32.sub_add_cancel]
    unfold mX12_takeLabel
    rw [o2, nsub1, if_neg (by first | exact nI_in (by omega) (by omega) | exact nI_inn (by omega) (by omega)), ncl (by omega), r1, if_neg (by first | exact nI_in (by omega) (by omega) | exact nI_inn (by omega) (by omega)), ncl (by omega), q4, r4, el]
    by_cases e : kd y = 4
    · rw [if_pos e, e, if_pos (show nI 4 = 4 from rfl), if_neg (by first | exact nI_in (by omega) (by omega) | exact nI_inn (by omega) (by omega)), if_neg (by first | exact nI_in (by omega) (by omega) | exact nI_inn (by omega) (by omega))]
    · rw [if_neg e, if_neg (show ¬ nI (kd y) = 4 from fun h => e ((nI_eq (by omega) (by decide)).mp h)), if_neg (by first | exact nI_in (by omega) (by omega) | exact nI_inn (by omega) (by omega))]
      congr 1
      funext r53 iv53 ar53
      have a1 : (au ar53 28 fs.length r53) 25 = ar53 25 := au_ne _ (by decide)
      have a2 : (au ar53 28 fs.length r53) 5 = ar53 5 := au_ne _ (by decide)
      rw [if_neg (by first | exact nI_in (by omega) (by omega) | exact nI_inn (by omega) (by omega)), a1, a2, au_self]
      by_cases e0 : iv53 24 = 0
      · rw [if_pos e0, if_pos e0, if_neg (by first | exact nI_in (by omega) (by omega) | exact nI_inn (by omega) (by omega))]
        by_cases e1 : (ar53 25 fs.length) < 0 ∨ 400 ≤ (ar53 25 fs.length).toNatClampNeg
        · rw [if_pos e1, if_pos e1]
        · rw [if_neg e1, if_neg e1, if_neg (by first | exact nI_in (by omega) (by omega) | exact nI_inn (by omega) (by omega))]
      · rw [if_neg e0, if_neg e0]
  rw [hC, hR]
  by_cases e : kd y = 4
  · rw [if_pos e, if_pos e]
    refine ⟨iv, au ar 905 fs.length (nI l), iw, au aw 28 fs.length (nI l), rfl, ⟨fun _ _ _ _ _ _ _ => rfl, fun k a b c d e f g => au_ne _ g, fun k hk => by rw [au_ne _ (by decide), au_ne _ (by decide)]; exact ⟨rfl, rfl⟩, fun i hi => by rw [au_ne _ (by decide)]⟩, ⟨fun _ _ _ _ _ _ => rfl, fun k a b c d e f g => au_ne _ g, fun k hk => by rw [au_ne _ (by decide), au_ne _ (by decide)]; exact ⟨rfl, rfl⟩, fun i hi => by rw [au_ne _ (by decide)]⟩, Or.inr ⟨rfl, p, l + 1, lr, Nat.le_refl p, rd_next hrd hrd.2.1 rfl rfl hrd.2.2.2.2.1 hrd.2.2.2.2.2.1 rfl (au_ne _ (by decide)) (au_ne _ (by decide)), ⟨⟨k1, k2, k3, k4, ?_, k7, k8⟩, hok⟩, ⟨p1, p2, p3, fun k hk => ?_⟩, ⟨⟨⟨?_, ?_, ?_, ?_⟩, ?_⟩, ⟨⟨?_, ?_, fun _ => ⟨?_, ?_⟩⟩, ?_⟩, o1, o2⟩, ⟨b1, b2, b3⟩, fun hN => absurd hN (hno _), z1, z2, z3⟩⟩
    · rcases k6 with ⟨w1, w2, w3, w4⟩ | ⟨w1, w2, w3⟩
      · exact ⟨by omega, by omega, Or.inl ⟨w1, w2, w3, by omega⟩⟩
      · omega
    · obtain ⟨a1, a2, a3⟩ := p4 k hk
      rw [au_ne _ (by decide), au_ne _ (by decide), au_ne _ (by decide), au_ne _ (by decide), au_ne _ (by decide), au_ne _ (by decide)]
      refine ⟨a1, a2, fun w => a3 (fun f hf h0 => ?_)⟩
      rcases List.mem_cons.mp hf with rfl | hf
      · exact w (0, y, lf, l + 1) List.mem_cons_self rfl
      · exact w f (List.mem_cons_of_mem _ hf) h0
    · exact c1
    · exact c2
    · exact c3
    · exact (au_self _ _ _ _).trans (nsub1 _).symm
    · refine stC_keep2 fs (fun i hi => ?_) hc
      refine ⟨?_, ?_, ?_, ?_⟩ <;> first | rfl | exact au_ni _ (by omega) | (simp [aur, show ¬ i = fs.length by omega]; done)
    · rw [if_pos k1]; exact r1
    · exact r2
    · exact r3
    · exact (au_self _ _ _ _).trans (nsub1 _).symm
    · refine stR_keep2 fs (fun i hi => ?_) hr
      refine ⟨?_, ?_, ?_, ?_⟩ <;> first | rfl | exact au_ni _ (by omega) | (simp [aur, show ¬ i = fs.length by omega]; done)
  · rw [if_neg e, if_neg e]
    have k56 : (kd y = 5 ∨ kd y = 6) ∧ lr y = lb y ∧ lb y < 2 ^ l := by
      rcases k6 with w | w
      · exact absurd w.1 e
      · exact w
    rcases take_both hrd (nI l) 7 la pA pB with ⟨v, hpn, -, v1, v2, t1, t2⟩ | ⟨c, hcc, t1, t2⟩
    · obtain ⟨j, j1, j2, rfl⟩ := nI_btw (show 7 < 2147483648 by decide) v1 v2 (show l < 2147483648 by omega)
      have hj2 : 2 ^ j < 256 := Nat.pow_lt_pow_right (m := j) (n := 8) (by decide) (by omega)
      have hlt : lb y < 2 ^ j := Nat.lt_of_lt_of_le k56.2.2 (Nat.pow_le_pow_right (by decide) j1)
      rw [t1, t2, obce, obe, if_neg (show ¬ (1 : Int32) = 0 by decide), if_pos (show (va_up iw 23 (nI (p + 1))) 24 = 0 from hrd.2.2.2.2.2.2.1), r1, if_neg (by first | exact nI_in (by omega) (by omega) | exact nI_inn (by omega) (by omega)), ncl (by omega), q6, bit_1 (show j < 8 by omega), k56.2.1, nor_ q2 hj2]
      refine ⟨_, _, _, _, rfl, ⟨fun k a b c d e f => ?_, fun k a b c d e f g => au_ne _ g, fun k hk => by rw [au_ne _ (by decide), au_ne _ (by decide)]; exact ⟨rfl, rfl⟩, fun i hi => by rw [au_ne _ (by decide)]⟩, ⟨fun k a b c d e => va_up_ne _ _ b, fun k a b c d e f g => by rw [au_ne _ b, au_ne _ g], fun k hk => ⟨rfl, au_ni _ (show k ≠ y by omega)⟩, fun i hi => by rw [au_ne _ (by decide), au_ne _ (by decide)]⟩, Or.inr ⟨rfl, p + 1, j + 1, va_up lr y (lb y ||| 2 ^ j), Nat.le_succ p, rd_next hrd (show p + 1 ≤ n by omega) rfl rfl rfl rfl rfl (au_ne _ (by decide)) (by rw [au_ne _ (by decide), au_ne _ (by decide)]), ⟨⟨k1, k2, k3, k4, ⟨by omega, by omega, Or.inr ⟨k56.1, va_up_self _ _ _, hlt⟩⟩, k7, k8⟩, ?_⟩, ⟨p1, p2, p3, fun k hk => ?_⟩, ⟨⟨⟨?_, ?_, ?_, ?_⟩, ?_⟩, ⟨⟨?_, ?_, fun _ => ⟨?_, ?_⟩⟩, ?_⟩, o1, o2⟩, ⟨show fs.length + 1 ≤ p + 1 by omega, b2, by omega⟩, fun hN => absurd hN (hno _), z1, z2, z3⟩⟩
      · rw [va_up_ne _ _ b, va_up_ne _ _ c]
      · refine okF_congr fs False (fun f hf h0 => ⟨rfl, rfl, va_up_ne _ _ ?_⟩) hok
        have := k7 f hf h0
        omega
      · obtain ⟨⟨a1, a2, a3, a4, a5, a6⟩, a7, a8⟩ := p4 k hk
        simp only [aur, reduceIte]
        refine ⟨⟨a1, a2, a3, a4, a5, ?_⟩, a7, fun w => ?_⟩
        · rw [upr]
          by_cases ek : k = y
          · rw [if_pos ek, if_pos ek]
          · rw [if_neg ek, if_neg ek]
            exact a6
        · have ek : k ≠ y := fun h => w (0, y, lf, j + 1) List.mem_cons_self rfl h.symm
          rw [va_up_ne _ _ ek]
          refine a8 (fun f hf h0 => ?_)
          rcases List.mem_cons.mp hf with rfl | hf
          · exact fun h => ek h.symm
          · exact w f (List.mem_cons_of_mem _ hf) h0
      · exact c1
      · exact c2
      · exact c3
      · exact (au_self _ _ _ _).trans (nsub1 _).symm
      · refine stC_keep2 fs (fun i hi => ?_) hc
        refine ⟨?_, ?_, ?_, ?_⟩ <;> first | rfl | exact au_ni _ (by omega) | (simp [aur, show ¬ i = fs.length by omega]; done)
      · rw [if_pos k1]; exact r1
      · exact r2
      · exact r3
      · rw [au_ne _ (by decide)]
        exact (au_self _ _ _ _).trans (nsub1 _).symm
      · refine stR_keep2 fs (fun i hi => ?_) hr
        refine ⟨?_, ?_, ?_, ?_⟩ <;> first | rfl | exact au_ni _ (by omega) | (simp [aur, show ¬ i = fs.length by omega]; done)
    · rw [t1, t2, obce, obe, if_pos rfl, if_neg (show ¬ (va_up (va_up iw 24 c) 2 (nI p)) 24 = 0 from mc0 hcc)]
      refine ⟨_, _, _, _, rfl, ⟨fun k a b c d e f => ?_, fun k a b c d e f g => rfl, fun k hk => ⟨rfl, rfl⟩, fun i hi => rfl⟩, ⟨fun k a b c d e => ?_, fun k a b c d e f g => au_ne _ g, fun k hk => by rw [au_ne _ (by decide), au_ne _ (by decide)]; exact ⟨rfl, rfl⟩, fun i hi => by rw [au_ne _ (by decide)]⟩, Or.inl ⟨rfl, c, nI p, ?_, rfl, rfl, rfl, rfl, g, p3, by omega, p1⟩⟩
      · rw [va_up_ne _ _ e, va_up_ne _ _ d]
      · rw [va_up_ne _ _ d, va_up_ne _ _ c]
      · rcases hcc with h | h
        · exact Or.inl h
        · exact Or.inr (Or.inl h)
