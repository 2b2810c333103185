/-- what both hold of a term while it is read -/
def tBo (g : Nat) (kd lb : Nat → Nat) (n p m : Nat) (T : TT) (os : List Nat) (iv : mI) (ar : mA) (pB : mA) (iw : mI) (aw : mA) : Prop := rd n p iv ar iw aw ∧ tSt g kd lb m T os ∧ (tCl m T pB ∧ tRe m T aw) ∧ (iv 707 = nI os.length ∧ iw 48 = nI os.length) ∧ (m ≤ p ∧ os.length ≤ p ∧ (∀ x, x < m → tPl T x < p) ∧ iw 31 = nI m) ∧ (∀ j, j < n → pB 0 j = ar 800 j) ∧ iv 804 = m1 ∧ iv 805 = m1 ∧ iw 2 = m1
/-- before a term's word is read that is the next one of k -/
def tWk (p m : Nat) (T : TT) (dn : Nat → Nat) (k : Nat) (os : List Nat) (ar : mA) (aw : mA) : Prop := (k < m ∧ dn k < tNk T k ∧ tMn T k = dn k ∧ okS m T dn k os) ∧ (cS T dn ar (k :: os) ∧ rS T dn aw (k :: os)) ∧ (tLd T k (dn k) → aw 37 (9 * k + dn k) = nI (tLa T k (dn k)) ∧ 0 < p ∧ ar 800 (p - 1) = nI (tLa T k (dn k)) ∧ tLa T k (dn k) < 8 ∧ (1 ≤ dn k → tLa T k (dn k - 1) < tLa T k (dn k)))
/-- before that term's label is read -/
def tLk (m : Nat) (T : TT) (dn : Nat → Nat) (k : Nat) (os : List Nat) (ar : mA) (aw : mA) : Prop := (k < m ∧ dn k < tNk T k ∧ tMn T k = dn k ∧ okS m T dn k os) ∧ (ar 703 os.length = nI (tPl T k) ∧ ar 704 os.length = nI (tNk T k - dn k) ∧ ar 706 os.length = hdI (tPl T) (tSc T k) ∧ (tLd T k (dn k) → ar 705 os.length = if dn k = 0 then m1 else nI (tLa T k (dn k - 1)))) ∧ (aw 46 os.length = nI k ∧ aw 47 os.length = nI (tSc T k).length ∧ aw 49 k = nI (tNk T k - dn k)) ∧ cS T dn ar os ∧ rS T dn aw os
def tWf (T : TT) (k : Nat) : Int32 := if tWd T k = 33 then 1 else 0
theorem c_around {k L m : Nat} {T : TT} {iv : mI} {ar : mA} {la : mL} {pA pB : mA} (h7 : iv 707 = nI (L + 1)) (hL : L < 200) (hp : tPl T k < 200) (h3 : ar 703 L = nI (tPl T k)) (hw : pB 0 (tPl T k) = nI (tWd T k)) : mX7_wordAround iv ar la pA pB = some (nI (tWd T k), iv, ar, la, pA, pB) := by
  unfold mX7_wordAround mX6_wordB
  rw [h7, if_neg (show ¬ nI (L + 1) ≤ (0 : Int32) from nI_ge (show 0 < L + 1 by omega) (by omega)), nsub1, if_neg (by first | exact nI_in (by omega) (by omega) | exact nI_inn (by omega) (by omega)), ncl (by omega), h3, if_neg (nI_pos (by omega)), if_neg (show ¬ (200 : Int32) ≤ nI (tPl T k) from nI_ge hp (by decide)), if_neg (by first | exact nI_in (by omega) (by omega) | exact nI_inn (by omega) (by omega)), ncl (by omega), hw]
  rfl
theorem c_isCase {k L m d : Nat} {T : TT} {iv : mI} {ar : mA} {la : mL} {pA pB : mA} (h7 : iv 707 = nI (L + 1)) (hL : L < 200) (hp : tPl T k < 200) (h3 : ar 703 L = nI (tPl T k)) (hw : pB 0 (tPl T k) = nI (tWd T k)) (hw2 : tWd T k ≤ 33) (h4 : ar 704 L = nI (tNk T k - d)) (h9 : tNk T k ≤ 9) : mX7_isCase iv ar la pA pB = some (if tWd T k = 32 ∧ d + 1 < tNk T k then 1 else 0, iv, ar, la, pA, pB) := by
  unfold mX7_isCase
  rw [h7, if_neg (show ¬ nI (L + 1) ≤ (0 : Int32) from nI_ge (show 0 < L + 1 by omega) (by omega)), c_around (T := T) (k := k) (m := m) h7 hL hp h3 hw, obce]
  by_cases e : tWd T k = 32
  · rw [e, if_pos (show nI 32 = 32 from rfl), h7, nsub1, if_neg (by first | exact nI_in (by omega) (by omega) | exact nI_inn (by omega) (by omega)), ncl (by omega), h4]
    by_cases e2 : d + 1 < tNk T k
    · rw [if_neg (show ¬ nI (tNk T k - d) ≤ (1 : Int32) from nI_ge (show 1 < tNk T k - d by omega) (by omega)), if_pos (show 32 = 32 ∧ d + 1 < tNk T k from ⟨rfl, e2⟩)]
    · rw [if_pos (show nI (tNk T k - d) ≤ (1 : Int32) from nI_le (show tNk T k - d ≤ 1 by omega) (by decide)), if_neg (show ¬ (32 = 32 ∧ d + 1 < tNk T k) from fun h => e2 h.2)]
  · rw [if_neg (show ¬ nI (tWd T k) = 32 from fun h => e ((nI_eq (b := 32) (by omega) (by decide)).mp h)), if_neg (fun h => e h.1)]
/-- the reference before a label -/
theorem r_pre {k L d : Nat} {T : TT} {K : Int32 → Int32 → Int32 → mI → mA → Option (Int32 × mI × mA)} {l1 l2 : Int32} {iw : mI} {aw : mA} (h24 : iw 24 = 0) (h8 : iw 48 = nI (L + 1)) (hL : L < 200) (hk : k < 200) (h6 : aw 46 L = nI k) (h7 : aw 47 L = nI (tSc T k).length) (h9 : aw 49 k = nI (tNk T k - d)) (hd : d < tNk T k) (hw : aw 32 k = nI (tWd T k)) (hw2 : tWd T k ≤ 33) (h38 : aw 38 k = nI d) (h34 : tWd T k = 32 → aw 34 k = nI (tNk T k - 1)) (hnk : tNk T k ≤ 9) :
    mX12_readTerms_J191 K l1 l2 1 iw aw = (if tWd T k = 29 ∨ (tWd T k = 32 ∧ d + 1 < tNk T k) then ob (mX12_takeTermLabel (nI k) iw (au aw 49 k (nI (tNk T k - d - 1)))) (fun _ iv268 ar268 => mX12_readTerms_J271 K (nI (tSc T k).length) (tWf T k) 1 (nI k) iv268 ar268) else mX12_readTerms_J271 K (nI (tSc T k).length) (tWf T k) 1 (nI k) iw (au aw 49 k (nI (tNk T k - d - 1)))) := by
  unfold mX12_readTerms_J191
  rw [if_pos h24, if_neg (show ¬ (1 : Int32) = 0 by decide), h8, nsub1, if_neg (by first | exact nI_in (by omega) (by omega) | exact nI_inn (by omega) (by omega)), ncl (by omega), h6, if_neg (by first | exact nI_in (by omega) (by omega) | exact nI_inn (by omega) (by omega)), if_neg (by first | exact nI_in (by omega) (by omega) | exact nI_inn (by omega) (by omega)), if_neg (by first | exact nI_in (by omega) (by omega) | exact nI_inn (by omega) (by omega)), ncl (by omega), h9, show nI (tNk T k - d) - 1 = nI (tNk T k - d - 1) by rw [show tNk T k - d = (tNk T k - d - 1) + 1 by omega, nsub1, Nat.add_sub_cancel], show (au aw 49 k (nI (tNk T k - d - 1))) 32 k = nI (tWd T k) from hw]
  have e243 : ∀ s0 : Int32, mX12_readTerms_J243 K 1 (nI k) s0 iw (au aw 49 k (nI (tNk T k - d - 1))) = (if tWd T k = 29 ∨ (tWd T k = 32 ∧ d + 1 < tNk T k) then ob (mX12_takeTermLabel (nI k) iw (au aw 49 k (nI (tNk T k - d - 1)))) (fun _ iv268 ar268 => mX12_readTerms_J271 K (nI (tSc T k).length) s0 1 (nI k) iv268 ar268) else mX12_readTerms_J271 K (nI (tSc T k).length) s0 1 (nI k) iw (au aw 49 k (nI (tNk T k - d - 1)))) := by
    intro s0
    have hlab : mX12_isLabelled (nI k) iw (au aw 49 k (nI (tNk T k - d - 1))) = some (if tWd T k = 29 ∨ (tWd T k = 32 ∧ d + 1 < tNk T k) then 1 else 0, iw, au aw 49 k (nI (tNk T k - d - 1))) := by
      unfold mX12_isLabelled
      rw [if_neg (by first | exact nI_in (by omega) (by omega) | exact nI_inn (by omega) (by omega)), ncl (by omega), show (au aw 49 k (nI (tNk T k - d - 1))) 32 k = nI (tWd T k) from hw]
      by_cases e : tWd T k = 29
      · rw [e, if_pos (show nI 29 = 29 from rfl), if_pos (Or.inl rfl)]
      · rw [if_neg (show ¬ nI (tWd T k) = 29 from fun h => e ((nI_eq (b := 29) (by omega) (by decide)).mp h)), if_neg (by first | exact nI_in (by omega) (by omega) | exact nI_inn (by omega) (by omega))]
        by_cases e2 : tWd T k = 32
        · rw [if_pos (show nI (tWd T k) = 32 by rw [e2]; rfl), if_neg (by first | exact nI_in (by omega) (by omega) | exact nI_inn (by omega) (by omega)), if_neg (by first | exact nI_in (by omega) (by omega) | exact nI_inn (by omega) (by omega)), show (au aw 49 k (nI (tNk T k - d - 1))) 34 k = nI (tNk T k - 1) from h34 e2, show (au aw 49 k (nI (tNk T k - d - 1))) 38 k = nI d from h38]
          by_cases e3 : d + 1 < tNk T k
          · rw [if_neg (show ¬ nI (tNk T k - 1) ≤ nI d from nI_ge (by omega) (by omega)), if_pos (Or.inr ⟨e2, e3⟩)]
          · rw [if_pos (show nI (tNk T k - 1) ≤ nI d from nI_le (by omega) (by omega)), if_neg (by omega)]
        · rw [if_neg (show ¬ nI (tWd T k) = 32 from fun h => e2 ((nI_eq (b := 32) (by omega) (by decide)).mp h)), if_neg (by omega)]
    unfold mX12_readTerms_J243
    rw [h8, nsub1, if_neg (by first | exact nI_in (by omega) (by omega) | exact nI_inn (by omega) (by omega)), ncl (by omega), hlab, obe, show (au aw 49 k (nI (tNk T k - d - 1))) 47 L = nI (tSc T k).length from h7]
    by_cases e : tWd T k = 29 ∨ (tWd T k = 32 ∧ d + 1 < tNk T k)
    · rw [if_pos e, if_pos e, if_neg (show ¬ (1 : Int32) = 0 by decide)]
    · rw [if_neg e, if_neg e, if_pos rfl]
  rw [e243, e243]
  unfold tWf
  by_cases e : tWd T k = 33
  · rw [if_pos (show nI (tWd T k) = 33 by rw [e]; rfl), if_pos e]
  · rw [if_neg (show ¬ nI (tWd T k) = 33 from fun h => e ((nI_eq (b := 33) (by omega) (by decide)).mp h)), if_neg e]
theorem r_271 {k d x : Nat} {T : TT} {K : Int32 → Int32 → Int32 → mI → mA → Option (Int32 × mI × mA)} {f : Int32} {iw : mI} {aw : mA} (hk : k < 200) (hw : aw 32 k = nI (tWd T k)) (hw2 : tWd T k ≤ 33) (h38 : aw 38 k = nI d) (h34 : tWd T k = 32 → aw 34 k = nI (tNk T k - 1)) (hnk : tNk T k ≤ 9) (hd : d < tNk T k) : mX12_readTerms_J271 K (nI (tSc T k).length) f 1 (nI k) iw aw = K (nI (tNs T k d x).length) f 1 iw aw := by
  have e329 : ∀ s0 : Int32, mX12_readTerms_J329 K (nI (tSc T k).length) f 1 s0 iw aw = K (if s0 = 0 then nI (tSc T k).length else nI ((tSc T k).length + 1)) f 1 iw aw := by
    intro s0
    unfold mX12_readTerms_J329
    by_cases e : s0 = 0
    · rw [if_pos e, if_pos e]
    · rw [if_neg e, if_neg e, show nI (tSc T k).length + 1 = nI ((tSc T k).length + 1) from nadd _ 1]
  unfold mX12_readTerms_J271 tNs
  rw [if_neg (by first | exact nI_in (by omega) (by omega) | exact nI_inn (by omega) (by omega)), ncl (by omega), hw]
  by_cases e1 : tWd T k = 21
  · rw [if_pos (show nI (tWd T k) = 21 by rw [e1]; rfl), e329, if_neg (show ¬ (1 : Int32) = 0 by decide), if_pos (Or.inl e1), List.length_cons]
  · rw [if_neg (show ¬ nI (tWd T k) = 21 from fun h => e1 ((nI_eq (b := 21) (by omega) (by decide)).mp h)), if_neg (by first | exact nI_in (by omega) (by omega) | exact nI_inn (by omega) (by omega))]
    by_cases e2 : tWd T k = 33
    · rw [if_pos (show nI (tWd T k) = 33 by rw [e2]; rfl), e329, if_neg (show ¬ (1 : Int32) = 0 by decide), if_pos (Or.inr (Or.inl e2)), List.length_cons]
    · rw [if_neg (show ¬ nI (tWd T k) = 33 from fun h => e2 ((nI_eq (b := 33) (by omega) (by decide)).mp h)), if_neg (by first | exact nI_in (by omega) (by omega) | exact nI_inn (by omega) (by omega))]
      by_cases e3 : tWd T k = 32
      · rw [if_pos (show nI (tWd T k) = 32 by rw [e3]; rfl), if_neg (by first | exact nI_in (by omega) (by omega) | exact nI_inn (by omega) (by omega)), if_neg (by first | exact nI_in (by omega) (by omega) | exact nI_inn (by omega) (by omega)), h34 e3, h38]
        by_cases e4 : d + 1 < tNk T k
        · rw [if_neg (show ¬ nI (tNk T k - 1) ≤ nI d from nI_ge (by omega) (by omega)), e329, if_neg (show ¬ (1 : Int32) = 0 by decide), if_pos (Or.inr (Or.inr ⟨e3, e4⟩)), List.length_cons]
        · rw [if_pos (show nI (tNk T k - 1) ≤ nI d from nI_le (by omega) (by omega)), e329, if_pos rfl, if_neg (by omega)]
      · rw [if_neg (show ¬ nI (tWd T k) = 32 from fun h => e3 ((nI_eq (b := 32) (by omega) (by decide)).mp h)), e329, if_pos rfl, if_neg (by omega)]
def tSetL (T : TT) (k i l : Nat) : TT := (tWd T, tPl T, tF1 T, tF2 T, tNk T, tMn T, tIn T, (fun a b => if a = k ∧ b = i then l else tLa T a b), tSc T, tPa T, tPo T)
theorem tSetL_la {T : TT} {k l : Nat} {a b : Nat} (h : b < tMn T a) : tLa (tSetL T k (tMn T k) l) a b = tLa T a b := by
  show (if a = k ∧ b = tMn T k then l else tLa T a b) = tLa T a b
  rw [if_neg]
  rintro ⟨rfl, rfl⟩
  omega
theorem labelT {g : Nat} {kd lb : Nat → Nat} {n p m : Nat} {T : TT} {dn : Nat → Nat} {k : Nat} {os : List Nat} {iv : mI} {ar : mA} {la : mL} {pA pB : mA} {iw : mI} {aw : mA} (hB : tBo g kd lb n p m T (k :: os) iv ar pB iw aw) (hL : tLk m T dn k os ar aw) :
    ∃ (iv2 : mI) (ar2 : mA) (iw2 : mI) (aw2 : mA) (b f : Int32), (∀ K l1 l2, mX12_readTerms_J191 K l1 l2 1 iw aw = K b f 1 iw2 aw2) ∧ fA iv ar iv2 ar2 ∧ fB iw aw iw2 aw2 ∧ ((mX7_readLabel iv ar la pA pB = some (0, iv2, ar2, la, pA, pB) ∧ flu iv2 iw2) ∨ (mX7_readLabel iv ar la pA pB = some (1, iv2, ar2, la, pA, pB) ∧ ∃ (p2 : Nat) (T2 : TT), (p ≤ p2 ∧ tPl T2 = tPl T) ∧ tBo g kd lb n p2 m T2 (k :: os) iv2 ar2 pB iw2 aw2 ∧ tWk p2 m T2 dn k os ar2 aw2 ∧ b = nI (tNs T2 k (dn k) m).length ∧ f = tWf T2 k)) := by
  obtain ⟨hrd, hst, ⟨hcl, hre⟩, ⟨o1, o2⟩, ⟨b1, b2, b3, b4⟩, htx, hz⟩ := hB
  obtain ⟨⟨k1, k2, k3, k4⟩, ⟨c1, c2, c3, c4⟩, ⟨r1, r2, r3⟩, hcS, hrS⟩ := hL
  rw [List.length_cons] at *
  have hp2 : p ≤ 200 := Nat.le_trans hrd.2.1 hrd.1
  obtain ⟨⟨s1, s2, s3⟩, s4, s5⟩ := hst k k1
  have h9 := hOK9 s1
  have hw2 := s1.1
  obtain ⟨⟨p1, p2, p3⟩, p4, -, -⟩ := hcl.2 k k1
  obtain ⟨⟨q1, q2, q3, q4, q5⟩, q6⟩ := hre k k1
  have hL2 : os.length < 200 := by omega
  have h34 : tWd T k = 32 → aw 34 k = nI (tNk T k - 1) := fun h => by
    rw [q3]
    exact (s1.2.2.2.2.2.2.2.2.2 h).2.2
  have hRp := fun K l1 l2 => r_pre (T := T) (K := K) (l1 := l1) (l2 := l2) hrd.2.2.2.2.2.2.1 o2 hL2 (show k < 200 by omega) r1 r2 r3 k2 q1 hw2.2 (by rw [q5, k3]) h34 h9
  have hR271 := fun (K : Int32 → Int32 → Int32 → mI → mA → Option (Int32 × mI × mA)) (iw2 : mI) (aw2 : mA) (e1 : aw2 32 k = aw 32 k) (e2 : aw2 38 k = aw 38 k) (e3 : aw2 34 k = aw 34 k) => r_271 (T := T) (K := K) (f := tWf T k) (iw := iw2) (aw := aw2) (x := m) (d := dn k) (show k < 200 by omega) (by rw [e1]; exact q1) hw2.2 (by rw [e2, q5, k3]) (fun h => by rw [e3]; exact h34 h) h9 k2
  have hAr := c_around (la := la) (pA := pA) (T := T) (k := k) (m := m) o1 hL2 s3 c1 p1
  have hCa := c_isCase (la := la) (pA := pA) (T := T) (k := k) (m := m) o1 hL2 s3 c1 p1 hw2.2 c2 h9
  by_cases e : tWd T k = 29 ∨ (tWd T k = 32 ∧ dn k + 1 < tNk T k)
  · have eC : mX7_readLabel iv ar la pA pB = mX7_readLabel_J29 (nI os.length) iv ar la pA pB := by
      unfold mX7_readLabel
      rw [o1, nsub1, if_neg (nI_pos (show os.length < 2147483648 by omega)), hAr, obce]
      by_cases e2 : tWd T k = 29
      · rw [if_pos (show nI (tWd T k) = 29 by rw [e2]; rfl)]
      · rw [if_neg (show ¬ nI (tWd T k) = 29 from fun h => e2 ((nI_eq (b := 29) (by omega) (by decide)).mp h)), hCa, obce, if_pos (show tWd T k = 32 ∧ dn k + 1 < tNk T k by omega), if_neg (show ¬ (1 : Int32) = 0 by decide)]
    have hlo : (if dn k = 0 then m1 else nI (tLa T k (dn k - 1))) + 1 = nI (if dn k = 0 then 0 else tLa T k (dn k - 1) + 1) := by
      by_cases e0 : dn k = 0
      · rw [if_pos e0, if_pos e0]
        rfl
      · rw [if_neg e0, if_neg e0]
        exact nadd _ 1
    have hlt : dn k ≠ 0 → tLa T k (dn k - 1) < 8 := fun h0 => ((s5 (dn k - 1) (by omega)).2.2.1 (by unfold tLd; omega)).1
    have hlo8 : (if dn k = 0 then 0 else tLa T k (dn k - 1) + 1) ≤ 8 := by
      by_cases e0 : dn k = 0
      · rw [if_pos e0]; omega
      · rw [if_neg e0]; have := hlt e0; omega
    have eR : mX12_takeTermLabel (nI k) iw (au aw 49 k (nI (tNk T k - dn k - 1))) = ob (mX12_take (nI (if dn k = 0 then 0 else tLa T k (dn k - 1) + 1)) 7 iw (au aw 49 k (nI (tNk T k - dn k - 1)))) (fun r45 iv45 ar45 => some (0, iv45, au ar45 37 (9 * k + dn k) r45)) := by
      have e28 : ∀ s0 : Int32, mX12_takeTermLabel_J28 (nI k) (nI (dn k)) s0 iw (au aw 49 k (nI (tNk T k - dn k - 1))) = ob (mX12_take (s0 + 1) 7 iw (au aw 49 k (nI (tNk T k - dn k - 1)))) (fun r45 iv45 ar45 => some (0, iv45, au ar45 37 (9 * k + dn k) r45)) := by
        intro s0
        unfold mX12_takeTermLabel_J28
        rw [show (9 : Int32) * nI k + nI (dn k) = nI (9 * k + dn k) by rw [show (9 : Int32) = nI 9 from rfl, nmul, nadd], ncl (show 9 * k + dn k < 2147483648 by omega)]
        simp only [if_neg (nI_inn (a := 9 * k + dn k) (N := 1800) (by omega) (by omega))]
      unfold mX12_takeTermLabel
      rw [if_neg (by first | exact nI_in (by omega) (by omega) | exact nI_inn (by omega) (by omega)), ncl (by omega), show (au aw 49 k (nI (tNk T k - dn k - 1))) 38 k = nI (dn k) by rw [au_ne _ (by decide), q5, k3], e28, e28, ← hlo]
      by_cases e0 : dn k = 0
      · rw [if_pos (show nI (dn k) = 0 by rw [e0]; rfl), if_pos e0]
        rfl
      · rw [if_neg (show ¬ nI (dn k) = 0 from fun h => e0 ((nI_eq (b := 0) (by omega) (by decide)).mp h)), if_neg e0, show (9 : Int32) * nI k + nI (dn k) - 1 = nI (9 * k + (dn k - 1)) by rw [show (9 : Int32) = nI 9 from rfl, nmul, nadd, show 9 * k + dn k = (9 * k + (dn k - 1)) + 1 by omega, nsub1], if_neg (by first | exact nI_in (by omega) (by omega) | exact nI_inn (by omega) (by omega)), ncl (by omega), show (au aw 49 k (nI (tNk T k - dn k - 1))) 37 (9 * k + (dn k - 1)) = nI (tLa T k (dn k - 1)) from (q6 (dn k - 1) (by omega)).2 (by unfold tLd; omega)]
    have hrd' : rd n p iv ar iw (au aw 49 k (nI (tNk T k - dn k - 1))) := rd_next hrd hrd.2.1 rfl rfl hrd.2.2.2.2.1 hrd.2.2.2.2.2.1 rfl rfl (au_ne _ (by decide))
    have eC2 : mX7_readLabel_J29 (nI os.length) iv ar la pA pB = obc (mX8_take (nI (if dn k = 0 then 0 else tLa T k (dn k - 1) + 1)) 7 iv ar la pA pB) (fun r37 iv37 ar37 la37 pA37 pB37 => if r37 = 0 then some (0, iv37, ar37, la37, pA37, pB37) else if nI os.length < 0 ∨ 200 ≤ os.length then none else some (1, iv37, au ar37 705 os.length (iv37 803), la37, pA37, pB37)) := by
      unfold mX7_readLabel_J29
      rw [if_neg (by first | exact nI_in (by omega) (by omega) | exact nI_inn (by omega) (by omega)), ncl (by omega), c4 e, hlo]
      rfl
    rcases take_both hrd' (nI (if dn k = 0 then 0 else tLa T k (dn k - 1) + 1)) 7 la pA pB with ⟨v, hpn, hv, v1, v2, t1, t2⟩ | ⟨c, hcc, t1, t2⟩
    · obtain ⟨l, l1, l2, rfl⟩ := nI_btw (b := 7) (by decide) v1 v2 (by omega)
      refine ⟨va_up (va_up iv 803 (nI l)) 802 (nI (p + 1)), au ar 705 os.length (nI l), va_up iw 23 (nI (p + 1)), au (au aw 49 k (nI (tNk T k - dn k - 1))) 37 (9 * k + dn k) (nI l), nI (tNs T k (dn k) m).length, tWf T k, fun K l1 l2 => ?_, ⟨fun k a b c d e => by rw [va_up_ne _ _ a, va_up_ne _ _ b], fun k a b c d => au_ne _ c⟩, ⟨fun k a b c d e => va_up_ne _ _ b, fun k hk => by rw [au_ne _ (by omega), au_ne _ (by omega)]⟩, Or.inr ⟨?_, p + 1, tSetL T k (tMn T k) l, ⟨by omega, rfl⟩, ⟨?_, ?_, ⟨⟨hcl.1, ?_⟩, ?_⟩, ⟨o1, o2⟩, ⟨by omega, show os.length + 1 ≤ p + 1 by omega, fun x hx => Nat.lt_succ_of_lt (b3 x hx), b4⟩, htx, hz⟩, ⟨⟨k1, k2, k3, ?_⟩, ⟨⟨⟨c1, c2, c3, ?_⟩, ?_⟩, ⟨⟨r1, r2, ?_⟩, ?_⟩⟩, ?_⟩, rfl, rfl⟩⟩
      · rw [hRp, if_pos e, eR, t2, obe, obe]
        exact hR271 K _ _ (by rw [au_ne _ (by decide), au_ne _ (by decide)]) (by rw [au_ne _ (by decide), au_ne _ (by decide)]) (by rw [au_ne _ (by decide), au_ne _ (by decide)])
      · rw [eC, eC2, t1, obce, if_neg (show ¬ (1 : Int32) = 0 by decide), if_neg (by first | exact nI_in (by omega) (by omega) | exact nI_inn (by omega) (by omega))]
        rfl
      · exact rd_next hrd (by omega) rfl rfl rfl rfl rfl (au_ne _ (by decide)) (by rw [au_ne _ (by decide), au_ne _ (by decide)])
      · intro x hx
        obtain ⟨x1, x2, x3⟩ := hst x hx
        refine ⟨x1, x2, fun i hi => ?_⟩
        obtain ⟨y1, y2, y3, y4⟩ := x3 i hi
        refine ⟨y1, y2, fun h => ?_, y4⟩
        rw [tSetL_la (T := T) (k := k) (l := l) hi]
        refine ⟨(y3 h).1, fun h1 => ?_⟩
        rw [tSetL_la (T := T) (k := k) (l := l) (show i - 1 < tMn T x by have : i < tMn T x := hi; omega)]
        exact (y3 h).2 h1
      · intro x hx
        obtain ⟨x1, x2, x3⟩ := hcl.2 x hx
        refine ⟨x1, fun i hi => ⟨(x2 i hi).1, fun h => ?_⟩, x3⟩
        rw [tSetL_la (T := T) (k := k) (l := l) hi]
        exact (x2 i hi).2 h
      · intro x hx
        obtain ⟨⟨x1, x2, x3, x4, x5⟩, x6⟩ := hre x hx
        refine ⟨⟨x1, x2, x3, x4, x5⟩, fun i hi => ⟨(x6 i hi).1, fun h => ?_⟩⟩
        rw [tSetL_la (T := T) (k := k) (l := l) hi]
        have hi2 : i < tMn T x := hi
        have : tMn T x ≤ 9 := Nat.le_trans (hst x hx).2.1.2 (hOK9 (hst x hx).1.1)
        rw [au_ni _ (show 9 * x + i ≠ 9 * k + dn k from fun h => by
          by_cases hxk : x = k
          · subst hxk; omega
          · omega)]
        exact (x6 i hi).2 h
      · exact okS_congr (T := T) (dn := dn) (Nat.le_refl m) os k (fun x hx => ⟨rfl, rfl, rfl, rfl⟩) k4
      · intro _
        rw [k3]
        show au ar 705 os.length (nI l) 705 os.length = nI (if k = k ∧ dn k = dn k then l else tLa T k (dn k))
        rw [au_self, if_pos ⟨rfl, rfl⟩]
      · have hlt' := okS_lt os k k4
        have gen : ∀ (zs : List Nat), (∀ x, x ∈ zs → x < k) → zs.length ≤ os.length → cS T dn ar zs → cS (tSetL T k (tMn T k) l) dn (au ar 705 os.length (nI l)) zs := by
          intro zs
          induction zs with
          | nil => intro _ _ _; trivial
          | cons z zs ih =>
            intro h1 h2 ⟨⟨y1, y2, y3, y4⟩, y5⟩
            rw [List.length_cons] at h2
            have hz := h1 z List.mem_cons_self
            refine ⟨⟨y1, y2, y3, fun h => ?_⟩, ih (fun x hx => h1 x (List.mem_cons_of_mem _ hx)) (by omega) y5⟩
            rw [au_ni _ (by omega)]
            show ar 705 zs.length = nI (if z = k ∧ dn z = tMn T k then l else tLa T z (dn z))
            rw [if_neg (fun h => by omega)]
            exact y4 h
        exact gen os (fun x hx => (hlt' x hx).1) (Nat.le_refl _) hcS
      · rw [au_ne _ (by decide), au_self]
        rfl
      · have hlt' := okS_lt os k k4
        have h0 := rS_keep (ar := aw) (ar2 := au (au aw 49 k (nI (tNk T k - dn k - 1))) 37 (9 * k + dn k) (nI l)) (dn2 := dn) os (fun i hi => ⟨rfl, rfl⟩) (fun x hx => ⟨rfl, by rw [au_ne _ (by decide), au_ni _ (by have := (hlt' x hx).1; omega)]⟩) hrS
        have gen : ∀ (zs : List Nat) (aw3 : mA), rS T dn aw3 zs → rS (tSetL T k (tMn T k) l) dn aw3 zs := by
          intro zs
          induction zs with
          | nil => intro _ _; trivial
          | cons z zs ih =>
            intro aw3 ⟨y1, y2⟩
            exact ⟨y1, ih aw3 y2⟩
        exact gen os _ h0
      · intro _
        rw [k3]
        show au (au aw 49 k (nI (tNk T k - dn k - 1))) 37 (9 * k + dn k) (nI l) 37 (9 * k + dn k) = nI (if k = k ∧ dn k = dn k then l else tLa T k (dn k)) ∧ 0 < p + 1 ∧ au ar 705 os.length (nI l) 800 (p + 1 - 1) = nI (if k = k ∧ dn k = dn k then l else tLa T k (dn k)) ∧ (if k = k ∧ dn k = dn k then l else tLa T k (dn k)) < 8 ∧ (1 ≤ dn k → (if k = k ∧ dn k - 1 = dn k then l else tLa T k (dn k - 1)) < (if k = k ∧ dn k = dn k then l else tLa T k (dn k)))
        rw [if_pos ⟨rfl, rfl⟩, au_self]
        refine ⟨rfl, by omega, hv.symm, by omega, fun h1 => ?_⟩
        rw [if_neg (show ¬ (k = k ∧ dn k - 1 = dn k) by omega)]
        rw [if_neg (show ¬ dn k = 0 by omega)] at l1
        omega
    · refine ⟨va_up (va_up iv 804 c) 805 (nI p), ar, va_up (va_up iw 24 c) 2 (nI p), au (au aw 49 k (nI (tNk T k - dn k - 1))) 37 (9 * k + dn k) c, nI (tNs T k (dn k) m).length, tWf T k, fun K l1 l2 => ?_, fA_fail _ _ _ _, ⟨fun k a b c d e => by rw [va_up_ne _ _ a, va_up_ne _ _ c], fun k hk => by rw [au_ne _ (by omega), au_ne _ (by omega)]⟩, Or.inl ⟨?_, flu_of hcc⟩⟩
      · rw [hRp, if_pos e, eR, t2, obe, obe]
        exact hR271 K _ _ (by rw [au_ne _ (by decide), au_ne _ (by decide)]) (by rw [au_ne _ (by decide), au_ne _ (by decide)]) (by rw [au_ne _ (by decide), au_ne _ (by decide)])
      · rw [eC, eC2, t1, obce, if_pos rfl]
  · refine ⟨iv, ar, iw, au aw 49 k (nI (tNk T k - dn k - 1)), nI (tNs T k (dn k) m).length, tWf T k, fun K l1 l2 => ?_, fA_r _ _, ⟨fun _ _ _ _ _ _ => rfl, fun k hk => au_ne _ (by omega)⟩, Or.inr ⟨?_, p, T, ⟨Nat.le_refl p, rfl⟩, ⟨rd_next hrd hrd.2.1 rfl rfl hrd.2.2.2.2.1 hrd.2.2.2.2.2.1 rfl rfl (au_ne _ (by decide)), hst, ⟨hcl, hre⟩, ⟨o1, o2⟩, ⟨b1, b2, b3, b4⟩, htx, hz⟩, ⟨⟨k1, k2, k3, k4⟩, ⟨⟨⟨c1, c2, c3, fun h => absurd h e⟩, hcS⟩, ⟨⟨r1, r2, au_self _ _ _ _⟩, ?_⟩⟩, fun h => absurd h e⟩, rfl, rfl⟩⟩
    · rw [hRp, if_neg e]
      exact hR271 K _ _ (by rw [au_ne _ (by decide)]) (by rw [au_ne _ (by decide)]) (by rw [au_ne _ (by decide)])
    · unfold mX7_readLabel
      rw [o1, nsub1, if_neg (nI_pos (show os.length < 2147483648 by omega)), hAr, obce, if_neg (show ¬ nI (tWd T k) = 29 from fun h => e (Or.inl ((nI_eq (b := 29) (by omega) (by decide)).mp h))), hCa, obce, if_neg (show ¬ (tWd T k = 32 ∧ dn k + 1 < tNk T k) from fun h => e (Or.inr h)), if_pos rfl]
    · have hlt' := okS_lt os k k4
      exact rS_keep (ar := aw) os (fun i hi => ⟨rfl, rfl⟩) (fun x hx => ⟨rfl, au_ni _ (by have := (hlt' x hx).1; omega)⟩) hrS
