theorem cG_fA {g : Nat} {kd lb : Nat → Nat} {pt : Nat → Nat → Nat} {iv iv2 : mI} {ar ar2 : mA} (h : fA iv ar iv2 ar2) (hc : cG g kd lb pt iv ar) : cG g kd lb pt iv2 ar2 := by
  unfold cG
  rw [h.1 303 (by decide) (by decide) (by decide) (by decide) (by decide), h.2 300 (by decide) (by decide) (by decide) (by decide), h.2 301 (by decide) (by decide) (by decide) (by decide), h.2 302 (by decide) (by decide) (by decide) (by decide)]
  exact hc
theorem rG_fB {g : Nat} {kd lb : Nat → Nat} {pt : Nat → Nat → Nat} {iv iv2 : mI} {ar ar2 : mA} (h : fB iv ar iv2 ar2) (hc : rG g kd lb pt iv ar) : rG g kd lb pt iv2 ar2 := by
  unfold rG
  rw [h.1 3 (by decide) (by decide) (by decide) (by decide) (by decide), h.2 4 (by decide), h.2 5 (by decide), h.2 6 (by decide)]
  exact hc
theorem cS_T {T T2 : TT} {dn : Nat → Nat} {ar : mA} : ∀ (os : List Nat), (∀ x, x ∈ os → tPl T2 x = tPl T x ∧ tNk T2 x = tNk T x ∧ tWd T2 x = tWd T x ∧ tLa T2 x = tLa T x ∧ hdI (tPl T2) (tSc T2 x) = hdI (tPl T) (tSc T x)) → cS T dn ar os → cS T2 dn ar os
  | [], _, _ => trivial
  | x :: os, h, ⟨h1, h2⟩ => by
    obtain ⟨a1, a2, a3, a4, a5⟩ := h x List.mem_cons_self
    refine ⟨?_, cS_T os (fun y hy => h y (List.mem_cons_of_mem _ hy)) h2⟩
    unfold tLd
    rw [a1, a2, a3, a4, a5]
    exact h1
theorem rS_T {T T2 : TT} {dn : Nat → Nat} {ar : mA} : ∀ (os : List Nat), (∀ x, x ∈ os → tNk T2 x = tNk T x ∧ tSc T2 x = tSc T x) → rS T dn ar os → rS T2 dn ar os
  | [], _, _ => trivial
  | x :: os, h, ⟨h1, h2⟩ => by
    obtain ⟨a1, a2⟩ := h x List.mem_cons_self
    refine ⟨?_, rS_T os (fun y hy => h y (List.mem_cons_of_mem _ hy)) h2⟩
    rw [a1, a2]
    exact h1
theorem r_flt16 {N : Nat} {b f r x : Int32} {iw iw2 : mI} {aw aw2 : mA} (h24 : iw 24 = 0) (h : mX12_readTermWord b f iw aw = some (r, iw2, aw2)) (h2 : ¬ iw2 24 = 0) : mX12_readTerms_L16 (N + 2) b f 1 iw aw = some (0, iw2, aw2) := by
  rw [mX12_readTerms_L16]
  rw [if_neg (show ¬ (1 : Int32) = 0 by decide), if_pos h24, h, obe, if_neg h2]
  unfold mX12_readTerms_J191
  rw [if_neg h2]
  exact L16_flt h2
theorem turnT {g : Nat} {kd lb : Nat → Nat} {pt : Nat → Nat → Nat} {n p m N : Nat} {T : TT} {dn : Nat → Nat} {k : Nat} {os : List Nat} {iv : mI} {ar : mA} {la : mL} {pA pB : mA} {iw : mI} {aw : mA} (hg : g ≤ 200) (hGr : Gr g kd lb pt) (hCg : cG g kd lb pt iv ar) (hRg : rG g kd lb pt iw aw) (hB : tBo g kd lb n p m T (k :: os) iv ar pB iw aw) (hW : tWk p m T dn k os ar aw) (hpz : tPl T 0 = 0) : uOut g kd lb n p (N + 1) iv ar la pA iw aw (mX7_readTerm iv ar la pA pB) (mX12_readTerms_L16 (N + 2) (nI (tNs T k (dn k) m).length) (tWf T k) 1 iw aw) := by
  obtain ⟨hrd, hst, ⟨hcl, hre⟩, ⟨o1, o2⟩, ⟨b1, b2, b3, b4⟩, htx, hz⟩ := hB
  obtain ⟨⟨k1, k2, k3, k4⟩, ⟨hcS, hrS⟩, hlab⟩ := hW
  have hcS' := hcS
  have hrS' := hrS
  obtain ⟨⟨c1, c2, c3, c4⟩, -⟩ := hcS'
  obtain ⟨⟨r1, r2, r3⟩, -⟩ := hrS'
  rw [List.length_cons] at o1 o2 b2
  have hp2 : p ≤ 200 := Nat.le_trans hrd.2.1 hrd.1
  have hn200 : n ≤ 200 := hrd.1
  obtain ⟨⟨s1, s2, s3⟩, s4, s5⟩ := hst k k1
  have h9 := hOK9 s1
  have hw2 := s1.1
  obtain ⟨⟨p1, p2, p3⟩, p4, p5, -⟩ := hcl.2 k k1
  obtain ⟨⟨q1, q2, q3, q4, q5⟩, q6⟩ := hre k k1
  have hL2 : os.length < 200 := by omega
  have h24 : iw 24 = 0 := hrd.2.2.2.2.2.2.1
  have h23 : iw 23 = nI p := hrd.2.2.2.2.2.1
  have hAr := c_around (la := la) (pA := pA) (T := T) (k := k) (m := m) o1 hL2 s3 c1 p1
  have eC : mX7_readTerm iv ar la pA pB = mX7_readTerm_J49 (nI p) (if tWd T k = 33 then 21 else 33) (if tWd T k = 33 then 21 else 20) iv ar la pA pB := by
    unfold mX7_readTerm mX8_at
    rw [obce, hAr, obce, hrd.2.2.2.2.1]
    by_cases e : tWd T k = 33
    · rw [if_pos (show nI (tWd T k) = 33 by rw [e]; rfl), if_pos e, if_pos e]
      unfold mX7_readTerm_J22
      rw [if_neg (show ¬ (1 : Int32) = 0 by decide), if_neg (show ¬ (1 : Int32) = 0 by decide)]
    · rw [if_neg (show ¬ nI (tWd T k) = 33 from fun h => e ((nI_eq (b := 33) (by omega) (by decide)).mp h)), if_neg e, if_neg e]
      unfold mX7_readTerm_J22
      rw [if_pos rfl, if_pos rfl]
  have eR : mX12_readTermWord (nI (tNs T k (dn k) m).length) (tWf T k) iw aw = mX12_readTermWord_J28 (nI (tNs T k (dn k) m).length) (nI p) (if tWd T k = 33 then 21 else 33) (if tWd T k = 33 then 21 else 20) iw aw := by
    unfold mX12_readTermWord tWf
    rw [h23]
    by_cases e : tWd T k = 33
    · rw [if_pos e, if_pos e, if_pos e, if_neg (show ¬ (1 : Int32) = 0 by decide), if_neg (show ¬ (1 : Int32) = 0 by decide)]
    · rw [if_neg e, if_neg e, if_neg e, if_pos rfl, if_pos rfl]
  rw [J28_eq] at eR
  rw [eC]
  unfold mX7_readTerm_J49
  rcases take_both hrd (if tWd T k = 33 then 21 else 20) (if tWd T k = 33 then 21 else 33) la pA pB with ⟨v, hpn, hv, v1, v2, t1, t2⟩ | ⟨c, hcc, t1, t2⟩
  · have hw : ∃ w, v = nI w ∧ 20 ≤ w ∧ w ≤ 33 ∧ (tWd T k = 33 → w = 21) := by
      by_cases e : tWd T k = 33
      · rw [if_pos e] at v1 v2
        obtain ⟨w, w1, w2, rfl⟩ := nI_btw (a := 21) (b := 21) (by decide) v1 v2 (by decide)
        exact ⟨w, rfl, by omega, by omega, fun _ => by omega⟩
      · rw [if_neg e] at v1 v2
        obtain ⟨w, w1, w2, rfl⟩ := nI_btw (a := 20) (b := 33) (by decide) v1 v2 (by decide)
        exact ⟨w, rfl, w1, w2, fun h => absurd h e⟩
    obtain ⟨w, rfl, w1, w2, w3⟩ := hw
    have hm2 : m < 200 := by omega
    have hmb : m ∉ tSc T k := fun h => by
      have := chC_mem _ p5 m h
      omega
    obtain ⟨pB2, hE⟩ := c_entT (m := m) (d := dn k) (la := la) (pA := pA) (iv := va_up (va_up iv 803 (nI w)) 802 (nI (p + 1))) o1 hL2 (show p < 200 by omega) (b3 k k1) c1 c2 c3 p1 hw2.2 h9 k2 (by rw [p3, k3])
    rcases hE with ⟨hE1, hE2⟩ | ⟨x, hx, rfl⟩
    · have hE0 := hE2.1
      have fA1 : fA iv ar (va_up (va_up iv 803 (nI w)) 802 (nI (p + 1))) ar := fA_take _ _ _ _
      have e31 : (va_up iw 23 (nI (p + 1))) 31 = nI m := b4
      rw [t1, obce, if_neg (show ¬ (1 : Int32) = 0 by decide), hE1, obce]
      unfold mX8_taken
      rw [obce, show (va_up (va_up iv 803 (nI w)) 802 (nI (p + 1))) 803 = nI w from rfl]
      rw [t2, obe, if_pos (show (va_up iw 23 (nI (p + 1))) 24 = 0 from h24), e31, if_neg (by first | exact nI_in (by omega) (by omega) | exact nI_inn (by omega) (by omega)), ncl (by omega), show nI m + 1 = nI (m + 1) from nadd _ 1] at eR
      -- the numbers behind the word
      have hch : chC (m + 1) (va_up (tPl T) m p) pB2 (tNs T k (dn k) m) := by
        have hkeep : ∀ x, x < m → (va_up (tPl T) m p) x = tPl T x ∧ pB2 3 (tPl T x) = pB 3 (tPl T x) := fun x hx => by
          have := b3 x hx
          refine ⟨va_up_ne _ _ (by omega), ?_⟩
          rw [hE2.2.2.2.2, if_neg (fun h => by omega)]
        obtain ⟨ch1, ch2⟩ := chC_keep (pl2 := va_up (tPl T) m p) (pB2 := pB2) hkeep (tSc T k) p5
        unfold tNs
        by_cases e : tWd T k = 21 ∨ tWd T k = 33 ∨ (tWd T k = 32 ∧ dn k + 1 < tNk T k)
        · rw [if_pos e]
          refine ⟨⟨Nat.lt_succ_self m, ?_⟩, ch1⟩
          rw [va_up_self, hE2.2.2.2.2, if_pos ⟨rfl, e⟩, ch2]
        · rw [if_neg e]
          exact ch1
      have hnsl : (tNs T k (dn k) m).length ≤ m := by
        unfold tNs
        by_cases e : tWd T k = 21 ∨ tWd T k = 33 ∨ (tWd T k = 32 ∧ dn k + 1 < tNk T k)
        · rw [if_pos e, List.length_cons]; omega
        · rw [if_neg e]; omega
      have hrdq : rd n (p + 1) (va_up (va_up iv 803 (nI w)) 802 (nI (p + 1))) ar (va_up (va_up iw 23 (nI (p + 1))) 31 (nI (m + 1))) (au (au (au (au (au aw 32 m (nI w)) 33 m (nI p)) 34 m 0) 35 m 0) 38 m 0) := rd_next hrd (by omega) rfl rfl rfl rfl rfl rfl (by rw [au_ne _ (by decide), au_ne _ (by decide), au_ne _ (by decide), au_ne _ (by decide), au_ne _ (by decide)])
      have fB1 : fB iw aw (va_up (va_up iw 23 (nI (p + 1))) 31 (nI (m + 1))) (au (au (au (au (au aw 32 m (nI w)) 33 m (nI p)) 34 m 0) 35 m 0) 38 m 0) := ⟨fun k a b c d e => by rw [va_up_ne _ _ d, va_up_ne _ _ b], fun k hk => by rw [au_ne _ (by omega), au_ne _ (by omega), au_ne _ (by omega), au_ne _ (by omega), au_ne _ (by omega)]⟩
      have htx2 : ∀ j, j < n → pB2 0 j = ar 800 j := fun j hj => by rw [hE0]; exact htx j hj
      have hH := head_both (pl := va_up (tPl T) m p) (M := m + 1) (m := m) (p := p) (la := la) (pA := pA) hrdq ⟨w1, w2⟩ hm2 rfl hg hGr (cG_fA fA1 hCg) (rG_fB fB1 hRg) rfl (show (tNs T k (dn k) m).length ≤ 200 by omega) hch (fun h hh => by
        by_cases e : h = m
        · rw [e, va_up_self]; omega
        · rw [va_up_ne _ _ e]
          have := b3 h (by omega)
          omega) htx2
      refine uOut_t (Nat.le_refl p) fA1 fB1 ?_
      have hns : (if tWd T k = 21 ∨ tWd T k = 33 ∨ (tWd T k = 32 ∧ dn k + 1 < tNk T k) then m :: tSc T k else tSc T k) = tNs T k (dn k) m := rfl
      rw [hns]
      rcases hH with ⟨iv2, iw2, aw2, h1, h2, h3, h4, h5⟩ | ⟨nk, f1, f2, q, iv2, iw2, aw2, pB3, h1, h2, h3, h4, h5, h6, h7, h8, h9', h10, h11, h12⟩
      · rw [h2] at eR
        rw [r_flt16 (x := 0) h24 eR (flu0 h3), h1, obce, if_pos rfl]
        exact Or.inl ⟨iv2, ar, pB2, iw2, aw2, rfl, rfl, h3, h4, h5⟩
      · rw [h2] at eR
        have hnk9 := hOK9 h5
        rw [h1, obce, if_neg (show ¬ nI nk = -1 by rw [nm1ne (by omega)]; exact id)]
        have h24' : iw2 24 = 0 := h4.2.2.2.2.2.2.1
        have h48 : iw2 48 = nI (os.length + 1) := by rw [h12 _ (by decide)]; exact o2
        have a46 : aw2 46 os.length = nI k := by rw [h8 _ (by decide) (by decide)]; exact r1
        have a38 : aw2 38 k = nI (dn k) := by
          rw [h8 _ (by decide) (by decide), au_ni _ (show k ≠ m by omega)]
          show aw 38 k = nI (dn k)
          rw [q5, k3]
        have e16 : mX12_readTerms_L16 (N + 2) (nI (tNs T k (dn k) m).length) (tWf T k) 1 iw aw = mX12_readTerms_J99 (mX12_readTerms_L16 (N + 1)) (nI (tNs T k (dn k) m).length) (tWf T k) (nI m) (nI nk) iw2 (au (au aw2 36 (9 * k + dn k) (nI m)) 38 k (nI (dn k + 1))) := by
          rw [mX12_readTerms_L16]
          rw [if_neg (show ¬ (1 : Int32) = 0 by decide), if_pos h24, eR, obe, if_pos h24', h48, if_neg (show ¬ nI (os.length + 1) ≤ (0 : Int32) from nI_ge (show 0 < os.length + 1 by omega) (by omega)), nsub1, if_neg (by first | exact nI_in (by omega) (by omega) | exact nI_inn (by omega) (by omega)), ncl (by omega), a46, if_neg (by first | exact nI_in (by omega) (by omega) | exact nI_inn (by omega) (by omega)), ncl (by omega), a38, show (9 : Int32) * nI k + nI (dn k) = nI (9 * k + dn k) by rw [show (9 : Int32) = nI 9 from rfl, nmul, nadd], if_neg (by first | exact nI_in (by omega) (by omega) | exact nI_inn (by omega) (by omega)), if_neg (by first | exact nI_in (by omega) (by omega) | exact nI_inn (by omega) (by omega)), if_neg (by first | exact nI_in (by omega) (by omega) | exact nI_inn (by omega) (by omega)), ncl (by omega), b4, au_ne _ (by decide), a38, show nI (dn k) + 1 = nI (dn k + 1) from nadd _ 1]
        rw [e16]
        have hsc : tSc (tAdd T m w p f1 f2 nk (tNs T k (dn k) m) k (dn k)) m = tNs T k (dn k) m := va_up_self _ _ _
        have hltos := okS_lt os k k4
        have hx : ∀ x, x ∈ k :: os → x < m := fun x hx => by
          rcases List.mem_cons.mp hx with rfl | hx
          · exact k1
          · exact (hltos x hx).2
        have hfin : fA (va_up (va_up iv 803 (nI w)) 802 (nI (p + 1))) ar iv2 ar := ⟨fun k a b c d e => h11 k a b, fun _ _ _ _ _ => rfl⟩
        have hfinB : fB (va_up (va_up iw 23 (nI (p + 1))) 31 (nI (m + 1))) (au (au (au (au (au aw 32 m (nI w)) 33 m (nI p)) 34 m 0) 35 m 0) 38 m 0) iw2 (au (au aw2 36 (9 * k + dn k) (nI m)) 38 k (nI (dn k + 1))) := ⟨fun k a b c d e => h12 k b, fun j hj => by rw [au_ne _ (by omega), au_ne _ (by omega), h8 _ (by omega) (by omega)]⟩
        refine uOut_t (Nat.le_refl p) hfin hfinB ?_
        have hD := endT (g := g) (kd := kd) (lb := lb) (N := N) (m := m) (nk := nk) (p := p) (p0 := p) (q := q) (n := n) (T := tAdd T m w p f1 f2 nk (tNs T k (dn k) m) k (dn k)) (dn := dn) (osP := k :: os) (iv := iv2) (ar := ar) (la := la) (pA := pA) (pB := pB3) (iw := iw2) (aw := au (au aw2 36 (9 * k + dn k) (nI m)) 38 k (nI (dn k + 1))) (f := tWf T k)
          (rd_next h4 h4.2.1 rfl rfl h4.2.2.2.2.1 h4.2.2.2.2.2.1 rfl rfl (by rw [au_ne _ (by decide), au_ne _ (by decide)]))
          (fun os2 i1 i2 => tAdd_st hst k1 k2 k3 (fun h => ⟨(hlab h).2.2.2.1, (hlab h).2.2.2.2⟩) h5 (by omega) w3 i1 i2)
          (tAdd_cl (n := n) hst hcl k1 k2 k3 b3 hE2 (by rw [htx p hpn, ← hv]) (by unfold hC at h6 ⊢; rw [hE0] at h6; exact h6) (fun h => ⟨(hlab h).2.1, by rw [htx (p - 1) (by omega)]; exact (hlab h).2.2.1⟩) h10)
          (tAdd_re (w := w) (p := p) (f1 := f1) (f2 := f2) hst hre k1 k2 k3 (fun h => (hlab h).1) (fun x hxm => ?_) ⟨?_, ?_, ?_, ?_⟩ (fun x => ?_) (fun y => ?_) ?_)
          ⟨⟨k1, by omega, ?_, ?_, ?_⟩, ?_⟩ ?_ ?_ (va_up_self _ _ _) (va_up_self _ _ _) (va_up_self _ _ _) (by rw [h11 _ (by decide) (by decide)]; exact o1) h48 (by rw [h12 _ (by decide)]; rfl) (by omega) (by rw [List.length_cons]; omega) (fun x hxm => ?_) (fun j hj => ?_) ⟨?_, ?_, ?_⟩ (by omega) (by show va_up (tPl T) m p 0 = 0; rw [va_up_ne _ _ (by omega)]; exact hpz)
        · rw [hsc] at hD
          exact hD
        · refine ⟨?_, ?_, ?_, ?_⟩
          · rw [au_ne _ (by decide), au_ne _ (by decide), h8 _ (by decide) (by decide)]
            simp [aur, hxm]
          · rw [au_ne _ (by decide), au_ne _ (by decide), h8 _ (by decide) (by decide)]
            simp [aur, hxm]
          · rw [au_ne _ (by decide), au_ne _ (by decide), (h9' x hxm).1]
            simp [aur, hxm]
          · rw [au_ne _ (by decide), au_ne _ (by decide), (h9' x hxm).2]
            simp [aur, hxm]
        · rw [au_ne _ (by decide), au_ne _ (by decide), h8 _ (by decide) (by decide)]
          simp [aur]
        · rw [au_ne _ (by decide), au_ne _ (by decide), h8 _ (by decide) (by decide)]
          simp [aur]
        · rw [au_ne _ (by decide), au_ne _ (by decide)]
          exact h7.1
        · rw [au_ne _ (by decide), au_ne _ (by decide)]
          exact h7.2
        · rw [aur, if_pos rfl]
          by_cases e : x = k
          · rw [if_pos e, if_pos e]
          · rw [if_neg e, if_neg e, au_ne _ (by decide), h8 _ (by decide) (by decide), aur, if_pos rfl]
            rfl
        · rw [au_ne _ (by decide), aur, if_pos rfl, h8 _ (by decide) (by decide)]
          rfl
        · rw [au_ne _ (by decide), au_ne _ (by decide), h8 _ (by decide) (by decide), au_ne _ (by decide), au_ne _ (by decide), au_ne _ (by decide), au_ne _ (by decide), au_ne _ (by decide)]
        · show dn k < va_up (tNk T) m nk k
          rw [va_up_ne _ _ (by omega)]
          exact k2
        · show va_up (va_up (tMn T) k (dn k + 1)) m 0 k = dn k + 1
          rw [va_up_ne _ _ (by omega), va_up_self]
        · show (if k = k ∧ dn k = dn k then m else tIn T k (dn k)) = m
          rw [if_pos ⟨rfl, rfl⟩]
        · refine okS_congr (T := T) (dn := dn) (Nat.le_succ m) os k (fun x hx => ?_) k4
          obtain ⟨g1, g2⟩ := hltos x hx
          refine ⟨rfl, va_up_ne _ _ (by omega), ?_, ?_⟩
          · show va_up (va_up (tMn T) k (dn k + 1)) m 0 x = tMn T x
            rw [va_up_ne _ _ (by omega), va_up_ne _ _ (by omega)]
          · show (if x = k ∧ dn x = dn k then m else tIn T x (dn x)) = tIn T x (dn x)
            rw [if_neg (fun h => by omega)]
        · refine cS_T (T := T) (k :: os) (fun x hxm => ?_) hcS
          have hxl := hx x hxm
          refine ⟨va_up_ne _ _ (by omega), va_up_ne _ _ (by omega), va_up_ne _ _ (by omega), rfl, ?_⟩
          show hdI (va_up (tPl T) m p) (va_up (tSc T) m (tNs T k (dn k) m) x) = hdI (tPl T) (tSc T x)
          rw [va_up_ne _ _ (show x ≠ m by omega)]
          have hch2 := (hcl.2 x hxl).2.2.1
          cases hs : tSc T x with
          | nil => rfl
          | cons z s =>
            have hzm := chC_mem _ hch2 z (by rw [hs]; exact List.mem_cons_self)
            show nI (va_up (tPl T) m p z) = nI (tPl T z)
            rw [va_up_ne _ _ (by omega)]
        · refine rS_T (T := T) (k :: os) (fun x hxm => ?_) ?_
          · have hxl := hx x hxm
            exact ⟨va_up_ne _ _ (by omega), va_up_ne _ _ (by omega)⟩
          · refine rS_keep (ar := aw) (dn := dn) (k :: os) (fun i hi => ?_) (fun x hxm => ⟨rfl, ?_⟩) hrS
            · rw [au_ne _ (by decide), au_ne _ (by decide), au_ne _ (by decide), au_ne _ (by decide), h8 _ (by decide) (by decide), h8 _ (by decide) (by decide)]
              exact ⟨rfl, rfl⟩
            · rw [au_ne _ (by decide), au_ne _ (by decide), h8 _ (by decide) (by decide)]
              rfl
        · show va_up (tPl T) m p x < q
          by_cases e : x = m
          · rw [e, va_up_self]; omega
          · rw [va_up_ne _ _ e]
            have := b3 x (by omega)
            omega
        · rcases h10 with ⟨e, _⟩ | ⟨_, _, _, _, _, e⟩
          · rw [e]; exact htx2 j hj
          · rw [e, au_ne _ (by decide)]; exact htx2 j hj
        · rw [h11 _ (by decide) (by decide)]; exact hz.1
        · rw [h11 _ (by decide) (by decide)]; exact hz.2.1
        · rw [h12 _ (by decide)]; exact hz.2.2
    · exact absurd hx hmb
  · rw [t2, obe, if_neg (show ¬ (va_up (va_up iw 24 c) 2 (nI p)) 24 = 0 from mc0 hcc)] at eR
    rw [t1, obce, if_pos rfl, r_flt16 (x := 0) h24 eR (mc0 hcc)]
    exact Or.inl ⟨_, _, _, _, _, rfl, rfl, flu_of hcc, fA_fail _ _ _ _, fB_fail _ _ _ _⟩
