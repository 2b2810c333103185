section
variable {g0 : Nat} {kd0 lb0 : Nat → Nat} {pt0 : Nat → Nat → Nat} {m : Nat} {T : TT} {pA pB : mA}
/-- how typing ends -/
def zOut (g0 : Nat) (kd0 lb0 : Nat → Nat) (pt0 : Nat → Nat → Nat) (m : Nat) (T : TT) (pA pB : mA) (iv : mI) (ar : mA) (iw : mI) (aw : mA) (C : Option (Int32 × mI × mA × mL × mA × mA)) (R : Option (Int32 × mI × mA)) : Prop :=
  (∃ (g2 : Nat) (kd2 lb2 : Nat → Nat) (pt2 : Nat → Nat → Nat) (ty2 va2 nxf2 : Nat → Nat) (vis2 : List Nat) (iv2 : mI) (ar2 : mA) (la2 : mL) (iw2 : mI) (aw2 : mA), C = some (nI (ty2 0), iv2, ar2, la2, pA, pB) ∧ R = some (0, iw2, aw2) ∧ yAll g0 kd0 lb0 pt0 g2 kd2 lb2 pt2 m T ty2 va2 nxf2 vis2 [] iv2 ar2 la2 pB iw2 aw2 ∧ fYc iv ar iv2 ar2 ∧ fYr iw aw iw2 aw2) ∨
  (∃ (c : Int32) (iv2 : mI) (ar2 : mA) (la2 : mL) (iw2 : mI) (aw2 : mA), C = some (c, iv2, ar2, la2, pA, pB) ∧ R = some (0, iw2, aw2) ∧ yBad g0 kd0 lb0 pt0 c iv2 ar2 la2 iw2 aw2 ∧ fYc iv ar iv2 ar2 ∧ fYr iw aw iw2 aw2)
theorem zOut_t {iv iv1 : mI} {ar ar1 : mA} {iw iw1 : mI} {aw aw1 : mA} {C : Option (Int32 × mI × mA × mL × mA × mA)} {R : Option (Int32 × mI × mA)} (h1 : fYc iv ar iv1 ar1) (h2 : fYr iw aw iw1 aw1) (h : zOut g0 kd0 lb0 pt0 m T pA pB iv1 ar1 iw1 aw1 C R) : zOut g0 kd0 lb0 pt0 m T pA pB iv ar iw aw C R := by
  rcases h with ⟨g2, kd2, lb2, pt2, ty2, va2, nxf2, vis2, iv2, ar2, la2, iw2, aw2, a1, a2, a3, a4, a5⟩ | ⟨c, iv2, ar2, la2, iw2, aw2, a1, a2, a3, a4, a5⟩
  · exact Or.inl ⟨g2, kd2, lb2, pt2, ty2, va2, nxf2, vis2, iv2, ar2, la2, iw2, aw2, a1, a2, a3, fYc_t h1 a4, fYr_t h2 a5⟩
  · exact Or.inr ⟨c, iv2, ar2, la2, iw2, aw2, a1, a2, a3, fYc_t h1 a4, fYr_t h2 a5⟩
theorem loopY : ∀ (d t g : Nat) (kd lb : Nat → Nat) (pt : Nat → Nat → Nat) (ty va nxf : Nat → Nat) (vis st : List Nat) (iv : mI) (ar : mA) (la : mL) (iw : mI) (aw : mA) (l2 : Int32) (n1 n2 : Nat), 2 * m ≤ t + d → d + 2 < n1 → d + 3 < n2 → t + st.length + 1 = 2 * vis.length → (st = [] → l2 = nI (ty 0)) → (st = [] ∨ ∃ pre, st = pre ++ [0]) → yAll g0 kd0 lb0 pt0 g kd lb pt m T ty va nxf vis st iv ar la pB iw aw → zOut g0 kd0 lb0 pt0 m T pA pB iv ar iw aw (mX2_check_L24 n1 l2 (nI t) iv ar la pA pB) (mX12_typeTerms_L11 n2 iw aw) := by
  intro d
  induction d with
  | zero =>
    intro t g kd lb pt ty va nxf vis st iv ar la iw aw l2 n1 n2 hd hn1 hn2 hc hl hbot h
    obtain ⟨n1, rfl⟩ : ∃ x, n1 = x + 1 := ⟨n1 - 1, by omega⟩
    obtain ⟨n2, rfl⟩ : ∃ x, n2 = x + 1 := ⟨n2 - 1, by omega⟩
    have hvl : vis.length ≤ m := nodup_len (f := 0) m vis h.2.2.1.2.1 (fun o ho => ⟨Nat.zero_le o, by rw [Nat.zero_add]; exact (h.2.2.1.1 o ho).1.1⟩)
    cases st with
    | cons k st => rw [List.length_cons] at hc; omega
    | nil =>
      rw [hl rfl]
      refine Or.inl ⟨g, kd, lb, pt, ty, va, nxf, vis, iv, ar, la, iw, aw, ?_, ?_, h, ⟨fun _ _ _ _ _ _ _ => rfl, fun _ _ _ _ _ _ _ _ _ _ _ => rfl⟩, ⟨fun _ _ _ _ _ _ _ => rfl, fun _ _ => rfl⟩⟩
      · rw [mX2_check_L24]
        rw [h.2.2.2.2.1, if_pos (show nI ([] : List Nat).length ≤ 0 by decide)]
      · rw [mX12_typeTerms_L11]
        rw [h.2.2.2.2.2, if_pos (show nI ([] : List Nat).length ≤ 0 by decide)]
  | succ d ih =>
    intro t g kd lb pt ty va nxf vis st iv ar la iw aw l2 n1 n2 hd hn1 hn2 hc hl hbot h
    obtain ⟨n1, rfl⟩ : ∃ x, n1 = x + 1 := ⟨n1 - 1, by omega⟩
    obtain ⟨n2, rfl⟩ : ∃ x, n2 = x + 2 := ⟨n2 - 2, by omega⟩
    have hm200 : m ≤ 200 := h.1.1.2.1
    have hvl : vis.length ≤ m := nodup_len (f := 0) m vis h.2.2.1.2.1 (fun o ho => ⟨Nat.zero_le o, by rw [Nat.zero_add]; exact (h.2.2.1.1 o ho).1.1⟩)
    cases st with
    | nil =>
      rw [hl rfl]
      refine Or.inl ⟨g, kd, lb, pt, ty, va, nxf, vis, iv, ar, la, iw, aw, ?_, ?_, h, ⟨fun _ _ _ _ _ _ _ => rfl, fun _ _ _ _ _ _ _ _ _ _ _ => rfl⟩, ⟨fun _ _ _ _ _ _ _ => rfl, fun _ _ => rfl⟩⟩
      · rw [mX2_check_L24]
        rw [h.2.2.2.2.1, if_pos (show nI ([] : List Nat).length ≤ 0 by decide)]
      · rw [mX12_typeTerms_L11]
        rw [h.2.2.2.2.2, if_pos (show nI ([] : List Nat).length ≤ 0 by decide)]
    | cons k st =>
      rw [List.length_cons] at hc
      have hkv : k ∈ vis := h.2.2.2.1.1.2.2.2.1
      have hnx : nxf k ≤ tNk T k := (h.2.2.1.1 k hkv).1.2.1
      have hbot2 : (st = [] ∧ k = 0) ∨ ∃ pre, st = pre ++ [0] := by
        rcases hbot with e | ⟨pre, e⟩
        · cases e
        · cases pre with
          | nil =>
            have e' : k :: st = [0] := e
            cases e'
            exact Or.inl ⟨rfl, rfl⟩
          | cons x pre =>
            have e' : k :: st = x :: (pre ++ [0]) := e
            cases e'
            exact Or.inr ⟨pre, rfl⟩
      by_cases e : nxf k = tNk T k
      · rcases popY (pA := pA) (t := t) (n := n1) (n2 := n2) h e (by omega) l2 with ⟨τ, g2, kd2, lb2, pt2, iv2, ar2, la2, iw2, aw2, q1, q2, q3, q4, q5, q6⟩ | ⟨c, iv2, ar2, la2, iw2, aw2, q1, q2, q3, q4, q5⟩
        · rw [q3, q4]
          refine zOut_t q5 q6 (ih (t + 1) g2 kd2 lb2 pt2 _ va nxf vis st iv2 ar2 la2 iw2 aw2 (nI τ) n1 (n2 + 1) (by omega) (by omega) (by omega) (by omega) (fun est => ?_) ?_ q1)
          · rcases hbot2 with ⟨-, ek⟩ | ⟨pre, e2⟩
            · rw [ek, va_up_self]
            · rw [est] at e2
              have := congrArg List.length e2
              simp at this
          · rcases hbot2 with ⟨e1, -⟩ | e2
            · exact Or.inl e1
            · exact Or.inr e2
        · exact Or.inr ⟨c, iv2, ar2, la2, iw2, aw2, q1, q2, q3, q4, q5⟩
      · rcases pushY (pA := pA) (t := t) (n := n1) (n2 := n2) h (by omega) (by omega) l2 with ⟨c, g2, kd2, lb2, pt2, va2, nxf2, iv2, ar2, iw2, aw2, q1, q2, q3, q4, q5⟩ | ⟨c, iv2, ar2, iw2, aw2, q1, q2, q3, q4, q5⟩
        · rw [q2, q3]
          refine zOut_t q4 q5 (ih (t + 1) g2 kd2 lb2 pt2 ty va2 nxf2 _ _ iv2 ar2 la iw2 aw2 c n1 (n2 + 1) (by omega) (by omega) (by omega) (by rw [List.length_cons, List.length_cons, List.length_cons]; omega) (fun est => by cases est) ?_ q1)
          rcases hbot2 with ⟨e1, ek⟩ | ⟨pre, e2⟩
          · exact Or.inr ⟨[tKt T k (nxf k)], by rw [e1, ek]; rfl⟩
          · exact Or.inr ⟨tKt T k (nxf k) :: k :: pre, by rw [e2]; rfl⟩
        · exact Or.inr ⟨c, iv2, ar2, la, iw2, aw2, q1, q2, q3, q4, q5⟩
/-- finding the type of a term, in both -/
theorem checkY {g : Nat} {iv : mI} {ar : mA} {la : mL} {iw : mI} {aw : mA} (hA : tAll g0 kd0 lb0 m T) (hcl : tCl m T pB) (hre : tRe m T aw) (hg : gAll g0 kd0 lb0 pt0 iv ar la iw aw) (h24 : iw 24 = 0) (h2 : iw 2 = m1) (hpz : tPl T 0 = 0) : zOut g0 kd0 lb0 pt0 m T pA pB iv ar iw aw (mX2_check iv ar la pA pB) (mX12_typeTerms iw aw) := by
  have h0 := hA.1
  have hm := hA.2.1
  obtain ⟨F, hF, hFF⟩ : ∃ F, bigF = F + 1 ∧ 5000 < F := ⟨999999, rfl, by omega⟩
  have hsc0 : tSc T 0 = [] := List.length_eq_zero_iff.mp (Nat.le_zero.mp (hA.2.2 0 h0).1.2.1)
  have eC : mX2_check iv ar la pA pB = mX2_check_L24 bigF (-1) (nI 0) (va_up (va_up (va_up iv 209 (-1)) 208 0) 208 (nI 1)) (au (au ar 206 0 0) 207 0 0) la pA pB := by
    unfold mX2_check mX2_push
    rw [show (va_up (va_up iv 209 (-1)) 208 0) 208 = nI 0 from rfl, if_neg (show ¬ (200 : Int32) ≤ nI 0 by decide), if_neg (nI_in (c := 0) (N := 200) (by omega) (by decide)), if_neg (nI_in (c := 0) (N := 200) (by omega) (by decide)), ncl (by omega), obce]
    rfl
  have eR : mX12_typeTerms iw aw = mX12_typeTerms_L11 bigF (va_up (va_up iw 53 0) 53 (nI 1)) (au (au (au aw 50 0 0) 51 0 0) 52 0 0) := by
    unfold mX12_typeTerms mX12_beginTyping
    rw [show (va_up iw 53 0) 53 = nI 0 from rfl, if_neg (nI_in (c := 0) (N := 220) (by omega) (by decide)), if_neg (nI_in (c := 0) (N := 220) (by omega) (by decide)), if_neg (nI_in (c := 0) (N := 220) (by omega) (by decide)), ncl (by omega), obe]
    rfl
  rw [eC, eR]
  refine zOut_t (iv1 := va_up (va_up (va_up iv 209 (-1)) 208 0) 208 (nI 1)) (ar1 := au (au ar 206 0 0) 207 0 0) (iw1 := va_up (va_up iw 53 0) 53 (nI 1)) (aw1 := au (au (au aw 50 0 0) 51 0 0) 52 0 0) ⟨fun x a b c d e f => by rw [va_up_ne _ _ e, va_up_ne _ _ e, va_up_ne _ _ f], fun x a b c d e f g i j l => by rw [au_ne _ l, au_ne _ j]⟩ ⟨fun x a b c d e f => by rw [va_up_ne _ _ f, va_up_ne _ _ f], fun x hx => by rw [au_ne _ (by omega), au_ne _ (by omega), au_ne _ (by omega)]⟩ ?_
  refine loopY (2 * m) 0 g0 kd0 lb0 pt0 (fun _ => 0) (fun _ => 0) (fun _ => 0) [0] [0] _ _ la _ _ (-1) bigF bigF (by omega) (by omega) (by omega) rfl (fun e => by cases e) (Or.inr ⟨[], rfl⟩) ⟨⟨hA, grow_r hg.1, hcl, hre⟩, ⟨⟨hg.1, hg.2.1, ⟨hg.2.2.1.1, hg.2.2.1.2⟩, ⟨hg.2.2.2.1.1, hg.2.2.2.1.2⟩, ordI_keep rfl hg.2.2.2.2⟩, h24, h2⟩, ⟨fun v hv => ?_, by simp, List.mem_cons_self⟩, ⟨⟨⟨?_, rfl⟩, ⟨rfl, rfl, ?_⟩, ⟨?_, fun y hy => ?_⟩, ⟨List.mem_cons_self, Nat.le_refl 0, fun x hx => by cases hx⟩⟩, trivial⟩, rfl, rfl⟩
  · have hv0 : v = 0 := by simpa using hv
    subst hv0
    refine ⟨⟨h0, Nat.zero_le _, Or.inl rfl, fun j hj => absurd hj (Nat.not_lt_zero j), fun y hy => ?_⟩, fun hn => absurd List.mem_cons_self hn, fun j hj => absurd hj (Nat.not_lt_zero j)⟩
    rw [hsc0] at hy
    cases hy
  · rw [hpz]; rfl
  · rw [hsc0]; rfl
  · rw [hsc0]; trivial
  · rw [hsc0] at hy; cases hy
end
