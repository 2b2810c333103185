/-- the numbers behind a word, in the reference -/
def rHd (ww bb kk r101 : Int32) (iv101 : mI) (ar101 : mA) : Option (Int32 × mI × mA) := if ww = 20 then ob (mX12_take 0 (bb - 1) iv101 ar101) (fun r191 iv191 ar191 => if kk < 0 ∨ 200 ≤ kk.toNatClampNeg then none else mX12_readTermWord_J290 r101 iv191 (au ar191 34 kk.toNatClampNeg r191)) else if ww = 21 then ob (mX12_takeNode iv101 ar101) (fun r199 iv199 ar199 => mX12_readTermWord_J290 r101 iv199 ar199) else if ww = 22 then mX12_readTermWord_J290 r101 iv101 ar101 else if ww = 23 then ob (mX12_take (-2147483648) 2147483647 iv101 ar101) (fun r218 iv218 ar218 => if kk < 0 ∨ 200 ≤ kk.toNatClampNeg then none else mX12_readTermWord_J290 r101 iv218 (au ar218 34 kk.toNatClampNeg r218)) else if ww = 24 then mX12_readTermWord_J290 r101 iv101 ar101 else if ww = 25 then mX12_readTermWord_J290 r101 iv101 ar101 else if ww = 26 then mX12_readTermWord_J290 r101 iv101 ar101 else if ww = 27 then mX12_readTermWord_J290 r101 iv101 ar101 else if ww = 28 then mX12_readTermWord_J290 r101 iv101 ar101 else if ww = 29 then ob (mX12_take 0 8 iv101 ar101) (fun r229 iv229 ar229 => if kk < 0 ∨ 200 ≤ kk.toNatClampNeg then none else if ww = 32 then mX12_readTermWord_J290 (r229 + 1) iv229 (au ar229 34 kk.toNatClampNeg r229) else mX12_readTermWord_J290 r229 iv229 (au ar229 34 kk.toNatClampNeg r229)) else if ww = 30 then ob (mX12_take 0 7 iv101 ar101) (fun r274 iv274 ar274 => if kk < 0 ∨ 200 ≤ kk.toNatClampNeg then none else mX12_readTermWord_J290 r101 iv274 (au ar274 35 kk.toNatClampNeg r274)) else if ww = 31 then ob (mX12_readChoice kk iv101 ar101) (fun ww4 iv284 aww4 => mX12_readTermWord_J290 r101 iv284 aww4) else if ww = 32 then ob (mX12_take 0 8 iv101 ar101) (fun r229 iv229 ar229 => if kk < 0 ∨ 200 ≤ kk.toNatClampNeg then none else if ww = 32 then mX12_readTermWord_J290 (r229 + 1) iv229 (au ar229 34 kk.toNatClampNeg r229) else mX12_readTermWord_J290 r229 iv229 (au ar229 34 kk.toNatClampNeg r229)) else if ww = 33 then ob (mX12_takeNode iv101 ar101) (fun r199 iv199 ar199 => mX12_readTermWord_J290 r101 iv199 ar199) else mX12_readTermWord_J290 r101 iv101 ar101
theorem J28_eq (l1 l3 s0 s1 : Int32) (iw : mI) (aw : mA) : mX12_readTermWord_J28 l1 l3 s0 s1 iw aw = ob (mX12_take s1 s0 iw aw) (fun r28 iv28 ar28 => if (iv28 24) = 0 then if (iv28 31) < 0 ∨ 200 ≤ (iv28 31).toNatClampNeg then none else ob (mX12_wants r28 (va_up iv28 31 ((iv28 31) + 1)) (au (au (au (au (au ar28 32 (iv28 31).toNatClampNeg r28) 33 (iv28 31).toNatClampNeg l3) 34 (iv28 31).toNatClampNeg 0) 35 (iv28 31).toNatClampNeg 0) 38 (iv28 31).toNatClampNeg 0)) (fun r101 iv101 ar101 => rHd r28 l1 (iv28 31) r101 iv101 ar101) else some (0, iv28, ar28)) := by
  unfold mX12_readTermWord_J28
  congr 1
  funext r28 iv28 ar28
  by_cases e : (iv28 24) = 0
  · rw [if_pos e, if_pos e]
    by_cases e2 : (iv28 31) < 0 ∨ 200 ≤ (iv28 31).toNatClampNeg
    · rw [if_pos e2, if_pos e2]
    · rw [if_neg e2, if_neg e2, if_neg e2, if_neg e2, if_neg e2, if_neg e2]
      rfl
  · rw [if_neg e, if_neg e]
theorem cHd22 (a1 a3 : Int32) (iv : mI) (ar : mA) (la : mL) (pA pB : mA) : mX7_readHead a1 (nI 22) a3 iv ar la pA pB = some (2, iv, ar, la, pA, pB) := rfl
theorem rHd22 (bb kk : Int32) (iv : mI) (ar : mA) : ob (mX12_wants (nI 22) iv ar) (fun r101 iv101 ar101 => rHd (nI 22) bb kk r101 iv101 ar101) = mX12_readTermWord_J290 2 iv ar := rfl
theorem rHd32 (bb kk : Int32) (iv : mI) (ar : mA) : ob (mX12_wants (nI 32) iv ar) (fun r101 iv101 ar101 => rHd (nI 32) bb kk r101 iv101 ar101) = ob (mX12_take 0 8 iv ar) (fun r229 iv229 ar229 => if kk < 0 ∨ 200 ≤ kk.toNatClampNeg then none else mX12_readTermWord_J290 (r229 + 1) iv229 (au ar229 34 kk.toNatClampNeg r229)) := rfl
theorem take_c {n p : Nat} {iv : mI} {ar : mA} {iw : mI} {aw : mA} (h : rd n p iv ar iw aw) (lo hi : Int32) (la : mL) (pA pB : mA) : mX8_take lo hi iv ar la pA pB = if p = n then some (0, va_up (va_up iv 804 m12) 805 (nI p), ar, la, pA, pB) else if (ar 800 p) < lo then some (0, va_up (va_up iv 804 m11) 805 (nI p), ar, la, pA, pB) else if (ar 800 p) ≤ hi then some (1, va_up (va_up iv 803 (ar 800 p)) 802 (nI (p + 1)), ar, la, pA, pB) else some (0, va_up (va_up iv 804 m11) 805 (nI p), ar, la, pA, pB) := by
  obtain ⟨hn, hp, h1, h2, h3, h4, h5, h6⟩ := h
  by_cases e : p = n
  · rw [if_pos e]
    unfold mX8_take mX8_fail
    rw [h1, h3, e, if_neg (nI_nlt (Nat.le_refl n) (by omega))]
    rfl
  · rw [if_neg e]
    unfold mX8_take mX8_fail
    rw [h1, h3, if_pos (nI_lt (show p < n by omega) (by omega)), if_neg (nI_in (by omega) (by omega)), ncl (by omega)]
    have e8 : (va_up iv 803 (ar 800 p)) 802 + 1 = nI (p + 1) := by
      rw [va_up_ne _ _ (by decide), h3, show (1 : Int32) = nI 1 from rfl, nadd]
    rw [e8]
    rfl
theorem take_r {n p : Nat} {iv : mI} {ar : mA} {iw : mI} {aw : mA} (h : rd n p iv ar iw aw) (lo hi : Int32) : mX12_take lo hi iw aw = if p = n then some (m12, va_up (va_up iw 24 m12) 2 (nI p), aw) else if (ar 800 p) < lo then some (m11, va_up (va_up iw 24 m11) 2 (nI p), aw) else if (ar 800 p) ≤ hi then some (ar 800 p, va_up iw 23 (nI (p + 1)), aw) else some (m11, va_up (va_up iw 24 m11) 2 (nI p), aw) := by
  have hc := take_c h lo hi (fun _ _ => 0) (fun _ _ => 0) (fun _ _ => 0)
  obtain ⟨hn, hp, h1, h2, h3, h4, h5, h6⟩ := id h
  by_cases e : p = n
  · rw [if_pos e]
    unfold mX12_take mX12_fail
    rw [if_pos h5, h4, h2, e, if_pos rfl]
    rfl
  · rw [if_neg e]
    rw [if_neg e] at hc
    rcases take_both h lo hi (fun _ _ => 0) (fun _ _ => 0) (fun _ _ => 0) with ⟨v, _, hv, v1, v2, t1, t2⟩ | ⟨c, hcc, t1, t2⟩
    · subst hv
      rw [if_neg (Int32.not_lt.mpr v1), if_pos v2, t2]
    · have hne : ¬ (lo ≤ ar 800 p ∧ ar 800 p ≤ hi) := fun q => by
        rw [t1, if_neg (Int32.not_lt.mpr q.1), if_pos q.2] at hc
        simp at hc
      have hcm : c = m11 := by
        by_cases q1 : (ar 800 p) < lo
        · rw [t1, if_pos q1] at hc
          have := congrArg (fun o : Option (Int32 × mI × mA × mL × mA × mA) => (o.map fun x => x.2.1 804)) hc
          simp [upr] at this
          exact this
        · rw [t1, if_neg q1] at hc
          by_cases q2 : (ar 800 p) ≤ hi
          · exact absurd ⟨Int32.not_lt.mp q1, q2⟩ hne
          · rw [if_neg q2] at hc
            have := congrArg (fun o : Option (Int32 × mI × mA × mL × mA × mA) => (o.map fun x => x.2.1 804)) hc
            simp [upr] at this
            exact this
      subst hcm
      rw [t2]
      by_cases q1 : (ar 800 p) < lo
      · rw [if_pos q1]
      · rw [if_neg q1]
        by_cases q2 : (ar 800 p) ≤ hi
        · exact absurd ⟨Int32.not_lt.mp q1, q2⟩ hne
        · rw [if_neg q2]
theorem btw1 {v : Int32} {g : Nat} (hg : g ≤ 400) (h1 : (0 : Int32) ≤ v) (h2 : v ≤ nI g - 1) : ∃ t, t < g ∧ v = nI t := by
  cases g with
  | zero =>
    have := Int32.le_trans h1 h2
    exact absurd this (by decide)
  | succ g =>
    rw [nsub1] at h2
    obtain ⟨j, _, j2, rfl⟩ := nI_btw (a := 0) (by omega) h1 h2 (by decide)
    exact ⟨j, by omega, rfl⟩
/-- what the numbers behind a word come to, in both -/
def hOut (g : Nat) (kd lb : Nat → Nat) (w n q p m : Nat) (pl : Nat → Nat) (ns : List Nat) (iv : mI) (ar : mA) (la : mL) (pA pB : mA) (iw : mI) (aw : mA) (C : Option (Int32 × mI × mA × mL × mA × mA)) (R : Option (Int32 × mI × mA)) : Prop :=
  (∃ (iv2 : mI) (iw2 : mI) (aw2 : mA), C = some (-1, iv2, ar, la, pA, pB) ∧ R = some (0, iw2, aw2) ∧ flu iv2 iw2 ∧ fA iv ar iv2 ar ∧ fB iw aw iw2 aw2) ∨
  (∃ (nk : Nat) (f1 f2 : Int32) (q2 : Nat) (iv2 : mI) (iw2 : mI) (aw2 : mA) (pB2 : mA), C = some (nI nk, iv2, ar, la, pA, pB2) ∧ R = some (nI nk, iw2, aw2) ∧ q ≤ q2 ∧ rd n q2 iv2 ar iw2 aw2 ∧ hOK g kd lb w nk f1 f2 ns.length ∧ hC w f1 f2 p pB ∧ (aw2 34 m = f1 ∧ aw2 35 m = f2) ∧ (∀ k, k ≠ 34 → k ≠ 35 → aw2 k = aw k) ∧ (∀ i, i ≠ m → aw2 34 i = aw 34 i ∧ aw2 35 i = aw 35 i) ∧ ((pB2 = pB ∧ w ≠ 20) ∨ (w = 20 ∧ ∃ j h, f1 = nI j ∧ ns[j]? = some h ∧ pB2 = au pB 4 p (nI (pl h)))) ∧ (∀ k, k ≠ 802 → k ≠ 803 → iv2 k = iv k) ∧ (∀ k, k ≠ 23 → iw2 k = iw k))
theorem fB_w {iw iw2 : mI} {aw : mA} (h : fB iw aw iw2 aw) (k : Nat) (hk : k = 34 ∨ k = 35) (i : Nat) (x : Int32) : fB iw aw iw2 (au aw k i x) := ⟨h.1, fun j hj => by rw [au_ne _ (by omega)]⟩
/-- one number behind the word -/
theorem head_one {g : Nat} {kd lb : Nat → Nat} {w n q p m : Nat} {pl : Nat → Nat} {ns : List Nat} {iv : mI} {ar : mA} {la : mL} {pA pB : mA} {iw : mI} {aw : mA} {C : Option (Int32 × mI × mA × mL × mA × mA)} {R : Option (Int32 × mI × mA)} (hrd : rd n q iv ar iw aw) (lo hi : Int32) (hm : m < 200) (hw : w ≠ 20) (b : Bool) (nkf : Int32 → Int32) (hCe : C = obc (mX8_take lo hi iv ar la pA pB) (fun r iv3 ar3 la3 pA3 pB3 => if r = 0 then some (-1, iv3, ar3, la3, pA3, pB3) else some (nkf (iv3 803), iv3, ar3, la3, pA3, pB3))) (hRe : R = ob (mX12_take lo hi iw aw) (fun r iv3 ar3 => mX12_readTermWord_J290 (nkf r) iv3 (au ar3 (if b then 34 else 35) m r)))
    (hk : ∀ v, v = ar 800 q → q < n → lo ≤ v → v ≤ hi → ∃ nk, nkf v = nI nk ∧ hOK g kd lb w nk (if b then v else aw 34 m) (if b then aw 35 m else v) ns.length ∧ hC w (if b then v else aw 34 m) (if b then aw 35 m else v) p pB) : hOut g kd lb w n q p m pl ns iv ar la pA pB iw aw C R := by
  rw [hCe, hRe]
  rcases take_both hrd lo hi la pA pB with ⟨v, hpn, hv, v1, v2, t1, t2⟩ | ⟨c, hcc, t1, t2⟩
  · obtain ⟨nk, k1, k2, k3⟩ := hk v hv hpn v1 v2
    rw [t1, t2, obce, obe, if_neg (show ¬ (1 : Int32) = 0 by decide)]
    unfold mX12_readTermWord_J290
    rw [if_pos (show (va_up iw 23 (nI (q + 1))) 24 = 0 from hrd.2.2.2.2.2.2.1), k1, show nkf ((va_up (va_up iv 803 v) 802 (nI (q + 1))) 803) = nI nk from k1]
    refine Or.inr ⟨nk, _, _, q + 1, _, _, _, pB, rfl, rfl, Nat.le_succ q, ?_, k2, k3, ⟨?_, ?_⟩, fun k h1 h2 => ?_, fun i hi => ?_, Or.inl ⟨rfl, hw⟩, fun k h1 h2 => ?_, fun k h => va_up_ne _ _ h⟩
    · refine rd_next hrd (by omega) rfl rfl rfl rfl rfl rfl ?_
      cases b
      · exact au_ne _ (by decide)
      · exact au_ne _ (by decide)
    · cases b
      · rfl
      · exact au_self _ _ _ _
    · cases b
      · exact au_self _ _ _ _
      · rfl
    · cases b
      · exact au_ne _ h2
      · exact au_ne _ h1
    · cases b
      · exact ⟨rfl, au_ni _ hi⟩
      · exact ⟨au_ni _ hi, rfl⟩
    · rw [va_up_ne _ _ h1, va_up_ne _ _ h2]
  · rw [t1, t2, obce, obe, if_pos rfl]
    unfold mX12_readTermWord_J290
    rw [if_neg (show ¬ (va_up (va_up iw 24 c) 2 (nI q)) 24 = 0 from mc0 hcc)]
    refine Or.inl ⟨_, _, _, rfl, rfl, flu_of hcc, fA_fail _ _ _ _, fB_w (fB_fail _ _ _ _) _ ?_ _ _⟩
    cases b
    · exact Or.inr rfl
    · exact Or.inl rfl
theorem head_none {g : Nat} {kd lb : Nat → Nat} {w n q p m : Nat} {pl : Nat → Nat} {ns : List Nat} {iv : mI} {ar : mA} {la : mL} {pA pB : mA} {iw : mI} {aw : mA} {C : Option (Int32 × mI × mA × mL × mA × mA)} {R : Option (Int32 × mI × mA)} (hrd : rd n q iv ar iw aw) (hw : w ≠ 20) (nk : Nat) (hCe : C = some (nI nk, iv, ar, la, pA, pB)) (hRe : R = mX12_readTermWord_J290 (nI nk) iw aw) (hk : hOK g kd lb w nk (aw 34 m) (aw 35 m) ns.length) (hk2 : hC w (aw 34 m) (aw 35 m) p pB) : hOut g kd lb w n q p m pl ns iv ar la pA pB iw aw C R := by
  rw [hCe, hRe]
  unfold mX12_readTermWord_J290
  rw [if_pos hrd.2.2.2.2.2.2.1]
  exact Or.inr ⟨nk, _, _, q, iv, iw, aw, pB, rfl, rfl, Nat.le_refl q, hrd, hk, hk2, ⟨rfl, rfl⟩, fun _ _ _ => rfl, fun _ _ => ⟨rfl, rfl⟩, Or.inl ⟨rfl, hw⟩, fun _ _ _ => rfl, fun _ _ => rfl⟩
