theorem va_up2 {α : Type} (f : Nat → α) (k : Nat) (a b : α) : va_up (va_up f k a) k b = va_up f k b := funext fun j => by
  by_cases e : j = k
  · rw [e, va_up_self, va_up_self]
  · rw [va_up_ne _ _ e, va_up_ne _ _ e, va_up_ne _ _ e]
theorem okS_suf {m : Nat} {T : TT} {dn : Nat → Nat} : ∀ (pre : List Nat) {os2 : List Nat} {nx : Nat}, okS m T dn nx (pre ++ os2) → ∃ nx2, okS m T dn nx2 os2
  | [], _, nx, h => ⟨nx, h⟩
  | a :: pre, _, _, ⟨_, h⟩ => okS_suf pre h
theorem cS_suf {T : TT} {dn : Nat → Nat} {ar : mA} : ∀ (pre : List Nat) {os2 : List Nat}, cS T dn ar (pre ++ os2) → cS T dn ar os2
  | [], _, h => h
  | _ :: pre, _, ⟨_, h⟩ => cS_suf pre h
theorem rS_suf {T : TT} {dn : Nat → Nat} {ar : mA} : ∀ (pre : List Nat) {os2 : List Nat}, rS T dn ar (pre ++ os2) → rS T dn ar os2
  | [], _, h => h
  | _ :: pre, _, ⟨_, h⟩ => rS_suf pre h
theorem okS_mn {m : Nat} {T : TT} {dn : Nat → Nat} : ∀ (os : List Nat) (nx : Nat), okS m T dn nx os → ∀ x, x ∈ os → tMn T x = dn x + 1
  | [], _, _, x, hx => by cases hx
  | a :: os, nx, ⟨⟨_, _, _, h4, _⟩, h7⟩, x, hx => by
    rcases List.mem_cons.mp hx with rfl | hx
    · exact h4
    · exact okS_mn os a h7 x hx
theorem tSt_drop {g : Nat} {kd lb : Nat → Nat} {m : Nat} {T : TT} {os os2 : List Nat} (h : tSt g kd lb m T os) (h2 : ∀ x, x ∈ os → x ∉ os2 → tMn T x = tNk T x) : tSt g kd lb m T os2 := by
  intro x hx
  obtain ⟨a1, ⟨a2, a3⟩, a4⟩ := h x hx
  refine ⟨a1, ⟨fun hn => ?_, a3⟩, a4⟩
  by_cases e : x ∈ os
  · exact h2 x e hn
  · exact a2 e
/-- what a turn of reading a term comes to -/
def uOut (g : Nat) (kd lb : Nat → Nat) (n p N : Nat) (iv : mI) (ar : mA) (la : mL) (pA : mA) (iw : mI) (aw : mA) (C : Option (Int32 × mI × mA × mL × mA × mA)) (R : Option (Int32 × mI × mA)) : Prop :=
  (∃ (iv2 : mI) (ar2 : mA) (pB2 : mA) (iw2 : mI) (aw2 : mA), C = some (0, iv2, ar2, la, pA, pB2) ∧ R = some (0, iw2, aw2) ∧ flu iv2 iw2 ∧ fA iv ar iv2 ar2 ∧ fB iw aw iw2 aw2) ∨
  (∃ (m2 p2 : Nat) (T2 : TT) (iv2 : mI) (ar2 : mA) (pB2 : mA) (iw2 : mI) (aw2 : mA), C = some (1, iv2, ar2, la, pA, pB2) ∧ R = some (0, iw2, aw2) ∧ iv2 707 = nI 0 ∧ (0 < m2 ∧ tPl T2 0 = 0) ∧ tBo g kd lb n p2 m2 T2 [] iv2 ar2 pB2 iw2 aw2 ∧ fA iv ar iv2 ar2 ∧ fB iw aw iw2 aw2) ∨
  (∃ (len : Nat) (iv1 : mI) (ar1 : mA) (pB1 : mA) (iv2 : mI) (ar2 : mA) (iw2 : mI) (aw2 : mA), C = some (1, iv1, ar1, la, pA, pB1) ∧ (len < 200 ∧ p < n) ∧ iv1 707 = nI (len + 1) ∧ fA iv ar iv2 ar2 ∧ fB iw aw iw2 aw2 ∧ ((mX7_readLabel iv1 ar1 la pA pB1 = some (0, iv2, ar2, la, pA, pB1) ∧ R = some (0, iw2, aw2) ∧ flu iv2 iw2) ∨ (mX7_readLabel iv1 ar1 la pA pB1 = some (1, iv2, ar2, la, pA, pB1) ∧ ∃ (p2 m2 : Nat) (T2 : TT) (dn : Nat → Nat) (k : Nat) (os : List Nat), (p < p2 ∧ tPl T2 0 = 0) ∧ tBo g kd lb n p2 m2 T2 (k :: os) iv2 ar2 pB1 iw2 aw2 ∧ tWk p2 m2 T2 dn k os ar2 aw2 ∧ R = mX12_readTerms_L16 N (nI (tNs T2 k (dn k) m2).length) (tWf T2 k) 1 iw2 aw2)))
theorem uOut_t {g : Nat} {kd lb : Nat → Nat} {n p p1 N : Nat} {iv iv1 : mI} {ar ar1 : mA} {la : mL} {pA : mA} {iw iw1 : mI} {aw aw1 : mA} {C : Option (Int32 × mI × mA × mL × mA × mA)} {R : Option (Int32 × mI × mA)} (hp : p ≤ p1) (h1 : fA iv ar iv1 ar1) (h2 : fB iw aw iw1 aw1) (h : uOut g kd lb n p1 N iv1 ar1 la pA iw1 aw1 C R) : uOut g kd lb n p N iv ar la pA iw aw C R := by
  rcases h with ⟨iv2, ar2, pB2, iw2, aw2, a1, a2, a3, a4, a5⟩ | ⟨m2, p2, T2, iv2, ar2, pB2, iw2, aw2, a1, a2, a3, a4, a5, a6, a7⟩ | ⟨len, ivm, arm, pB1, iv2, ar2, iw2, aw2, a1, a2, a3, a4, a5, a6⟩
  · exact Or.inl ⟨iv2, ar2, pB2, iw2, aw2, a1, a2, a3, fA_t h1 a4, fB_t h2 a5⟩
  · exact Or.inr (Or.inl ⟨m2, p2, T2, iv2, ar2, pB2, iw2, aw2, a1, a2, a3, a4, a5, fA_t h1 a6, fB_t h2 a7⟩)
  · refine Or.inr (Or.inr ⟨len, ivm, arm, pB1, iv2, ar2, iw2, aw2, a1, ⟨a2.1, by omega⟩, a3, fA_t h1 a4, fB_t h2 a5, ?_⟩)
    rcases a6 with b | ⟨b1, p2, m2, T2, dn, k, os, b2, b3⟩
    · exact Or.inl b
    · exact Or.inr ⟨b1, p2, m2, T2, dn, k, os, ⟨by omega, b2.2⟩, b3⟩
theorem L16_flt {N : Nat} {b f : Int32} {iw : mI} {aw : mA} (h : ¬ iw 24 = 0) : mX12_readTerms_L16 (N + 1) b f 1 iw aw = some (0, iw, aw) := by
  rw [mX12_readTerms_L16]
  rw [if_neg (show ¬ (1 : Int32) = 0 by decide), if_neg h]
/-- with the label that is due next -/
theorem dueT {g : Nat} {kd lb : Nat → Nat} {n p q m N : Nat} {T : TT} {dn : Nat → Nat} {k : Nat} {os : List Nat} {iv iv0 : mI} {ar ar0 : mA} {la : mL} {pA pB : mA} {iw iw0 : mI} {aw aw0 : mA} {b f : Int32} (hB : tBo g kd lb n q m T (k :: os) iv ar pB iw aw) (hL : tLk m T dn k os ar aw) (hp : p < q) (f1 : fA iv0 ar0 iv ar) (f2 : fB iw0 aw0 iw aw) (hpz : tPl T 0 = 0) : uOut g kd lb n p (N + 1) iv0 ar0 la pA iw0 aw0 (some (1, iv, ar, la, pA, pB)) (mX12_readTerms_J178 (mX12_readTerms_L16 (N + 1)) b f iw aw) := by
  have hq : q ≤ 200 := Nat.le_trans hB.1.2.1 hB.1.1
  have hlen : os.length + 1 ≤ q := hB.2.2.2.2.1.2.1
  have o1 : iv 707 = nI (os.length + 1) := hB.2.2.2.1.1
  have o2 : iw 48 = nI (os.length + 1) := hB.2.2.2.1.2
  obtain ⟨iv2, ar2, iw2, aw2, b2, f2', r1, r2, r3, r4⟩ := labelT (la := la) (pA := pA) hB hL
  have eR : mX12_readTerms_J178 (mX12_readTerms_L16 (N + 1)) b f iw aw = mX12_readTerms_L16 (N + 1) b2 f2' 1 iw2 aw2 := by
    unfold mX12_readTerms_J178
    rw [o2, if_neg (show ¬ nI (os.length + 1) ≤ (0 : Int32) from nI_ge (show 0 < os.length + 1 by omega) (by omega)), r1]
  refine Or.inr (Or.inr ⟨os.length, iv, ar, pB, iv2, ar2, iw2, aw2, rfl, ⟨by omega, Nat.lt_of_lt_of_le hp hB.1.2.1⟩, o1, fA_t f1 r2, fB_t f2 r3, ?_⟩)
  rcases r4 with ⟨a1, a2⟩ | ⟨a1, p2, T2, a2, a3, a4, a5, a6⟩
  · exact Or.inl ⟨a1, by rw [eR]; exact L16_flt (flu0 a2), a2⟩
  · exact Or.inr ⟨a1, p2, m, T2, dn, k, os, ⟨by omega, by rw [a2.2]; exact hpz⟩, a3, a4, by rw [eR, a5, a6]⟩
/-- a term more stands, with its numbers: what comes then -/
theorem endT {g : Nat} {kd lb : Nat → Nat} {n p0 q m nk p N : Nat} {T : TT} {dn : Nat → Nat} {osP : List Nat} {iv : mI} {ar : mA} {la : mL} {pA pB : mA} {iw : mI} {aw : mA} {f : Int32} (hrd : rd n q iv ar iw aw) (hst : ∀ os2, (∀ x, x ∈ osP → x ∈ os2) → (nk ≠ 0 → m ∈ os2) → tSt g kd lb (m + 1) T os2) (hcl : tCl (m + 1) T pB) (hre : tRe (m + 1) T aw) (hok : okS (m + 1) T dn m osP) (hcS : cS T dn ar osP) (hrS : rS T dn aw osP) (hnk : tNk T m = nk) (hmn : tMn T m = 0) (hpl : tPl T m = p) (o1 : iv 707 = nI osP.length) (o2 : iw 48 = nI osP.length) (h31 : iw 31 = nI (m + 1)) (hm : m + 1 ≤ q) (hlen : osP.length + 1 ≤ q) (hps : ∀ x, x < m + 1 → tPl T x < q) (htx : ∀ j, j < n → pB 0 j = ar 800 j) (hz : iv 804 = m1 ∧ iv 805 = m1 ∧ iw 2 = m1) (hp0 : p0 < q) (hpz : tPl T 0 = 0) :
    uOut g kd lb n p0 (N + 1) iv ar la pA iw aw (if nI nk ≤ 0 then obc (mX7_settle iv ar la pA pB) (fun _ iv103 ar103 la103 pA103 pB103 => some (1, iv103, ar103, la103, pA103, pB103)) else obc (mX7_push (nI p) (nI nk) (hdI (tPl T) (tSc T m)) iv ar la pA pB) (fun _ iv96 ar96 la96 pA96 pB96 => some (1, iv96, ar96, la96, pA96, pB96))) (mX12_readTerms_J99 (mX12_readTerms_L16 (N + 1)) (nI (tSc T m).length) f (nI m) (nI nk) iw aw) := by
  have hq : q ≤ 200 := Nat.le_trans hrd.2.1 hrd.1
  obtain ⟨F, hF, hFF⟩ : ∃ F, bigF = F + 1 ∧ 5000 < F := ⟨999999, rfl, by omega⟩
  have hlt := okS_lt osP m hok
  have hnk9 : ∀ x, x < m + 1 → tNk T x ≤ 9 := fun x hx => hOK9 (hst (m :: osP) (fun x hx => List.mem_cons_of_mem _ hx) (fun _ => List.mem_cons_self) x hx).1.1
  have hn9 : nk ≤ 9 := by rw [← hnk]; exact hnk9 m (Nat.lt_succ_self m)
  have e99 : mX12_readTerms_J99 (mX12_readTerms_L16 (N + 1)) (nI (tSc T m).length) f (nI m) (nI nk) iw aw = mX12_readTerms_L139 (mX12_readTerms_L16 (N + 1)) bigF (nI (tSc T m).length) f (va_up iw 48 (nI (osP.length + 1))) (au (au (au aw 49 m (nI nk)) 46 osP.length (nI m)) 47 osP.length (nI (tSc T m).length)) := by
    unfold mX12_readTerms_J99
    rw [if_neg (by first | exact nI_in (by omega) (by omega) | exact nI_inn (by omega) (by omega)), o2, if_neg (by first | exact nI_in (by omega) (by omega) | exact nI_inn (by omega) (by omega)), if_neg (by first | exact nI_in (by omega) (by omega) | exact nI_inn (by omega) (by omega)), ncl (by omega), ncl (by omega), show nI osP.length + 1 = nI (osP.length + 1) from nadd _ 1]
  have hrS2 : rS T dn (au (au (au aw 49 m (nI nk)) 46 osP.length (nI m)) 47 osP.length (nI (tSc T m).length)) osP := rS_keep (ar := aw) osP (fun i hi => ⟨by rw [au_ne _ (by decide), au_ni _ (by omega)]; rfl, by rw [au_ni _ (by omega)]; rfl⟩) (fun x hx => ⟨rfl, by rw [au_ne _ (by decide), au_ne _ (by decide), au_ni _ (by have := (hlt x hx).1; omega)]⟩) hrS
  have hre2 : tRe (m + 1) T (au (au (au aw 49 m (nI nk)) 46 osP.length (nI m)) 47 osP.length (nI (tSc T m).length)) := hre
  have hfB : ∀ w : Int32, fB iw aw (va_up iw 48 w) (au (au (au aw 49 m (nI nk)) 46 osP.length (nI m)) 47 osP.length (nI (tSc T m).length)) := fun w => ⟨fun k a b c d e => va_up_ne _ _ e, fun k hk => by rw [au_ne _ (by omega), au_ne _ (by omega), au_ne _ (by omega)]⟩
  rw [e99]
  by_cases e0 : nk = 0
  · subst e0
    rw [if_pos (show nI 0 ≤ (0 : Int32) by decide)]
    have e139 : mX12_readTerms_L139 (mX12_readTerms_L16 (N + 1)) bigF (nI (tSc T m).length) f (va_up iw 48 (nI (osP.length + 1))) (au (au (au aw 49 m (nI 0)) 46 osP.length (nI m)) 47 osP.length (nI (tSc T m).length)) = mX12_readTerms_L139 (mX12_readTerms_L16 (N + 1)) F (nI (tSc T m).length) f (va_up iw 48 (nI osP.length)) (au (au (au aw 49 m (nI 0)) 46 osP.length (nI m)) 47 osP.length (nI (tSc T m).length)) := by
      rw [hF]
      conv => lhs; rw [mX12_readTerms_L139]
      rw [show (va_up iw 48 (nI (osP.length + 1))) 48 = nI (osP.length + 1) from rfl, if_neg (show ¬ nI (osP.length + 1) ≤ (0 : Int32) from nI_ge (show 0 < osP.length + 1 by omega) (by omega)), nsub1, if_neg (by first | exact nI_in (by omega) (by omega) | exact nI_inn (by omega) (by omega)), ncl (by omega), show (au (au (au aw 49 m (nI 0)) 46 osP.length (nI m)) 47 osP.length (nI (tSc T m).length)) 46 osP.length = nI m by rw [au_ne _ (by decide), au_self], if_neg (by first | exact nI_in (by omega) (by omega) | exact nI_inn (by omega) (by omega)), ncl (by omega), show (au (au (au aw 49 m (nI 0)) 46 osP.length (nI m)) 47 osP.length (nI (tSc T m).length)) 49 m = nI 0 by rw [au_ne _ (by decide), au_ne _ (by decide), au_self], if_pos (show nI 0 = 0 from rfl), va_up2]
    rw [e139]
    obtain ⟨iv2, ar2, iw2, pre, os2, a1, a2, a3, a4, a5, a6, a7, a8, a9, a10, a11⟩ := settleT (la := la) (pA := pA) (pB := pB) (K := mX12_readTerms_L16 (N + 1)) (l1 := nI (tSc T m).length) (l2 := f) (show m + 1 ≤ 200 by omega) hnk9 osP m iv ar (va_up iw 48 (nI osP.length)) bigF F (by omega) (by omega) (by omega) hok hcS hrS2 o1 rfl
    unfold mX7_settle
    rw [o1, a1, obce, a2]
    have hle2 : os2.length ≤ osP.length := by rw [a3, List.length_append]; omega
    have fA2 : fA iv ar iv2 ar2 := ⟨fun k a b c d e => a7 k e, fun k a b c d => a9 k b⟩
    have fB2 : fB iw aw iw2 (au (au (au aw 49 m (nI 0)) 46 osP.length (nI m)) 47 osP.length (nI (tSc T m).length)) := fB_t (hfB (nI osP.length)) ⟨fun k a b c d e => a8 k e, fun _ _ => rfl⟩
    have hrd2 : rd n q iv2 ar2 iw2 (au (au (au aw 49 m (nI 0)) 46 osP.length (nI m)) 47 osP.length (nI (tSc T m).length)) := rd_next hrd hrd.2.1 (a7 _ (by decide)) (a8 _ (by decide)) (by rw [a7 _ (by decide)]; exact hrd.2.2.2.2.1) (by rw [a8 _ (by decide)]; exact hrd.2.2.2.2.2.1) (a8 _ (by decide)) (a9 _ (by decide)) (by rw [au_ne _ (by decide), au_ne _ (by decide), au_ne _ (by decide)])
    have hst2 : tSt g kd lb (m + 1) T os2 := tSt_drop (hst osP (fun x hx => hx) (fun h => absurd rfl h)) (fun x hx hn => by
      have h1 := okS_mn osP m hok x hx
      rw [a3] at hx
      rcases List.mem_append.mp hx with hx | hx
      · rw [h1, a4 x hx]
      · exact absurd hx hn)
    have hB2 : tBo g kd lb n q (m + 1) T os2 iv2 ar2 pB iw2 (au (au (au aw 49 m (nI 0)) 46 osP.length (nI m)) 47 osP.length (nI (tSc T m).length)) := ⟨hrd2, hst2, ⟨hcl, hre2⟩, ⟨a5, a6⟩, ⟨hm, by omega, hps, by rw [a8 _ (by decide)]; exact h31⟩, fun j hj => by rw [a9 800 (by decide)]; exact htx j hj, by rw [a7 _ (by decide)]; exact hz.1, by rw [a7 _ (by decide)]; exact hz.2.1, by rw [a8 _ (by decide)]; exact hz.2.2⟩
    rcases a11 with rfl | ⟨k, os3, rfl, b1, b2⟩
    · refine Or.inr (Or.inl ⟨m + 1, q, T, iv2, ar2, pB, iw2, _, rfl, ?_, a5, ⟨Nat.succ_pos m, hpz⟩, hB2, fA2, fB2⟩)
      unfold mX12_readTerms_J178
      rw [a6, if_pos (show nI ([] : List Nat).length ≤ 0 by decide)]
      unfold mX12_readTerms_J191
      rw [if_pos hrd2.2.2.2.2.2.2.1, if_pos rfl, mX12_readTerms_L16]
      rw [if_pos rfl]
    · have hrS3 : rS T dn (au (au (au aw 49 m (nI 0)) 46 osP.length (nI m)) 47 osP.length (nI (tSc T m).length)) (pre ++ k :: os3) := by
        rw [← a3]
        exact hrS2
      have hok3 : okS (m + 1) T dn m (pre ++ k :: os3) := by
        rw [← a3]
        exact hok
      have hcS3 : cS T dn ar (pre ++ k :: os3) := by
        rw [← a3]
        exact hcS
      obtain ⟨nx2, ⟨⟨y1, y2, y3, y4, y5⟩, y6⟩⟩ := okS_suf pre hok3
      obtain ⟨⟨z1, z2, z3, z4⟩, z5⟩ := cS_suf pre hcS3
      obtain ⟨⟨w1, w2, w3⟩, w4⟩ := rS_suf pre hrS3
      have hlt3 := okS_lt os3 k y6
      refine dueT (dn := va_up dn k (dn k + 1)) hB2 ⟨⟨y2, by rw [va_up_self]; exact b1, by rw [va_up_self]; exact y4, ?_⟩, ⟨by rw [a9 _ (by decide)]; exact z1, by rw [va_up_self]; exact b2, by rw [a9 _ (by decide)]; exact z3, fun hld => ?_⟩, ⟨w1, w2, ?_⟩, ?_, ?_⟩ hp0 fA2 fB2 hpz
      · exact okS_congr (T := T) (dn := dn) (Nat.le_refl _) os3 k (fun x hx => ⟨va_up_ne _ _ (by have := (hlt3 x hx).1; omega), rfl, rfl, rfl⟩) y6
      · rw [va_up_self] at hld ⊢
        rw [if_neg (by omega), Nat.add_sub_cancel, a9 _ (by decide)]
        refine z4 ?_
        unfold tLd at hld ⊢
        omega
      · rw [va_up_self, w3]
        rfl
      · exact cS_keep (ar := ar) (dn := dn) os3 (fun i hi => ⟨by rw [a9 _ (by decide)], a10 i (by rw [List.length_cons]; omega), by rw [a9 _ (by decide)], by rw [a9 _ (by decide)]⟩) (fun x hx => va_up_ne _ _ (by have := (hlt3 x hx).1; omega)) z5
      · exact rS_keep (dn := dn) os3 (fun i hi => ⟨rfl, rfl⟩) (fun x hx => ⟨va_up_ne _ _ (by have := (hlt3 x hx).1; omega), rfl⟩) w4
  · rw [if_neg (show ¬ nI nk ≤ (0 : Int32) from nI_ge (show 0 < nk by omega) (by omega))]
    have e139 : mX12_readTerms_L139 (mX12_readTerms_L16 (N + 1)) bigF (nI (tSc T m).length) f (va_up iw 48 (nI (osP.length + 1))) (au (au (au aw 49 m (nI nk)) 46 osP.length (nI m)) 47 osP.length (nI (tSc T m).length)) = mX12_readTerms_J178 (mX12_readTerms_L16 (N + 1)) (nI (tSc T m).length) f (va_up iw 48 (nI (osP.length + 1))) (au (au (au aw 49 m (nI nk)) 46 osP.length (nI m)) 47 osP.length (nI (tSc T m).length)) := by
      rw [hF]
      conv => lhs; rw [mX12_readTerms_L139]
      rw [show (va_up iw 48 (nI (osP.length + 1))) 48 = nI (osP.length + 1) from rfl, if_neg (show ¬ nI (osP.length + 1) ≤ (0 : Int32) from nI_ge (show 0 < osP.length + 1 by omega) (by omega)), nsub1, if_neg (by first | exact nI_in (by omega) (by omega) | exact nI_inn (by omega) (by omega)), ncl (by omega), show (au (au (au aw 49 m (nI nk)) 46 osP.length (nI m)) 47 osP.length (nI (tSc T m).length)) 46 osP.length = nI m by rw [au_ne _ (by decide), au_self], if_neg (by first | exact nI_in (by omega) (by omega) | exact nI_inn (by omega) (by omega)), ncl (by omega), show (au (au (au aw 49 m (nI nk)) 46 osP.length (nI m)) 47 osP.length (nI (tSc T m).length)) 49 m = nI nk by rw [au_ne _ (by decide), au_ne _ (by decide), au_self], if_neg (show ¬ nI nk = 0 from fun h => e0 ((nI_eq (b := 0) (by omega) (by decide)).mp h))]
    have ePu : mX7_push (nI p) (nI nk) (hdI (tPl T) (tSc T m)) iv ar la pA pB = some (0, va_up iv 707 (nI (osP.length + 1)), au (au (au (au ar 703 osP.length (nI p)) 704 osP.length (nI nk)) 705 osP.length (-1)) 706 osP.length (hdI (tPl T) (tSc T m)), la, pA, pB) := by
      unfold mX7_push
      rw [o1, if_neg (show ¬ (200 : Int32) ≤ nI osP.length from nI_ge (show osP.length < 200 by omega) (by decide)), if_neg (by first | exact nI_in (by omega) (by omega) | exact nI_inn (by omega) (by omega)), if_neg (by first | exact nI_in (by omega) (by omega) | exact nI_inn (by omega) (by omega)), if_neg (by first | exact nI_in (by omega) (by omega) | exact nI_inn (by omega) (by omega)), if_neg (by first | exact nI_in (by omega) (by omega) | exact nI_inn (by omega) (by omega)), ncl (by omega), show nI osP.length + 1 = nI (osP.length + 1) from nadd _ 1]
    rw [e139, ePu, obce]
    have hmN : ∀ x, x ∈ osP → x ≠ m := fun x hx => by have := (hlt x hx).1; omega
    refine dueT (dn := va_up dn m 0) (k := m) (os := osP) (q := q) (m := m + 1) (T := T) ⟨?_, hst (m :: osP) (fun x hx => List.mem_cons_of_mem _ hx) (fun _ => List.mem_cons_self), ⟨hcl, hre2⟩, ⟨rfl, rfl⟩, ⟨hm, hlen, hps, h31⟩, fun j hj => htx j hj, hz⟩ ⟨⟨Nat.lt_succ_self m, ?_, ?_, ?_⟩, ⟨?_, ?_, ?_, fun _ => ?_⟩, ⟨?_, ?_, ?_⟩, ?_, ?_⟩ hp0 ⟨fun k a b c d e => va_up_ne _ _ e, fun k a b c d => by rw [au_ne _ d, au_ne _ c, au_ne _ b, au_ne _ a]⟩ (hfB _) hpz
    · exact rd_next hrd hrd.2.1 rfl rfl hrd.2.2.2.2.1 hrd.2.2.2.2.2.1 rfl (by rw [au_ne _ (by decide), au_ne _ (by decide), au_ne _ (by decide), au_ne _ (by decide)]) (by rw [au_ne _ (by decide), au_ne _ (by decide), au_ne _ (by decide)])
    · rw [va_up_self, hnk]; omega
    · rw [va_up_self, hmn]
    · exact okS_congr (T := T) (dn := dn) (Nat.le_refl _) osP m (fun x hx => ⟨va_up_ne _ _ (hmN x hx), rfl, rfl, rfl⟩) hok
    · rw [au_ne _ (by decide), au_ne _ (by decide), au_ne _ (by decide), au_self, hpl]
    · rw [au_ne _ (by decide), au_ne _ (by decide), au_self, va_up_self, hnk, Nat.sub_zero]
    · rw [au_self]
    · rw [au_ne _ (by decide), au_self, va_up_self, if_pos rfl]
      rfl
    · rw [au_ne _ (by decide), au_self]
    · rw [au_self]
    · rw [au_ne _ (by decide), au_ne _ (by decide), au_self, va_up_self, hnk, Nat.sub_zero]
    · exact cS_keep (ar := ar) (dn := dn) osP (fun i hi => ⟨by simp [aur, show ¬ i = osP.length by omega], by simp [aur, show ¬ i = osP.length by omega], by simp [aur, show ¬ i = osP.length by omega], by simp [aur, show ¬ i = osP.length by omega]⟩) (fun x hx => va_up_ne _ _ (hmN x hx)) hcS
    · exact rS_keep (dn := dn) osP (fun i hi => ⟨rfl, rfl⟩) (fun x hx => ⟨va_up_ne _ _ (hmN x hx), rfl⟩) hrS2
