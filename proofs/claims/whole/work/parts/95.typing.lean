theorem tTp_sur {T : TT} {k i : Nat} (hi : i < tNk T k) : ∃ j, j < tNk T k ∧ tTp T k j = i := by
  unfold tTp
  by_cases e : tWd T k = 32
  · by_cases el : i = tNk T k - 1
    · exact ⟨0, by omega, by rw [if_pos e, if_pos rfl]; exact el.symm⟩
    · exact ⟨i + 1, by omega, by rw [if_pos e, if_neg (by omega), Nat.add_sub_cancel]⟩
  · exact ⟨i, hi, by rw [if_neg e]⟩
/-- the terms whose types are being found, top first; nxf: how many terms in each were begun -/
def yS (T : TT) (g : Nat) (va nxf : Nat → Nat) (vis : List Nat) (ar aw : mA) : List Nat → Prop
  | [] => True
  | k :: st => ((ar 206 st.length = nI (tPl T k) ∧ ar 207 st.length = nI (nxf k)) ∧ (aw 50 st.length = nI k ∧ aw 51 st.length = nI (nxf k) ∧ aw 52 st.length = nI (tSc T k).length) ∧ (bnd aw va (tSc T k) ∧ ∀ y, y ∈ tSc T k → va y < g ∧ ar 205 (tPl T y) = nI (va y)) ∧ (k ∈ vis ∧ st.length ≤ k ∧ ∀ x, x ∈ st → x < k ∧ (tSc T x).length ≤ (tSc T k).length)) ∧ yS T g va nxf vis ar aw st
/-- the terms that were begun -/
def yV (g : Nat) (kd lb : Nat → Nat) (pt : Nat → Nat → Nat) (m : Nat) (T : TT) (ty va nxf : Nat → Nat) (vis st : List Nat) (ar aw : mA) : Prop := ∀ v, v ∈ vis → (v < m ∧ nxf v ≤ tNk T v ∧ (v = 0 ∨ (tPa T v ∈ vis ∧ ∃ j, j < nxf (tPa T v) ∧ v = tKt T (tPa T v) j)) ∧ (∀ j, j < nxf v → tKt T v j ∈ vis) ∧ ∀ y, y ∈ tSc T v → y ∈ vis) ∧ (v ∉ st → nxf v = tNk T v ∧ ty v < g ∧ ar 204 (tPl T v) = nI (ty v) ∧ aw 54 v = nI (ty v) ∧ tyR kd lb pt T ty va v (ty v) ∧ ∀ i, i < tNk T v → tIn T v i ∉ st) ∧ (∀ j, j < nxf v → tBd T v (tTp T v j) → va (tKt T v j) < g ∧ ar 205 (tPl T (tKt T v j)) = nI (va (tKt T v j)) ∧ vaR kd lb pt T ty va v (tTp T v j) ∧ (tWd T v = 32 → tIn T v (tNk T v - 1) ∈ vis ∧ tIn T v (tNk T v - 1) ∉ st))
def yAll (g0 : Nat) (kd0 lb0 : Nat → Nat) (pt0 : Nat → Nat → Nat) (g : Nat) (kd lb : Nat → Nat) (pt : Nat → Nat → Nat) (m : Nat) (T : TT) (ty va nxf : Nat → Nat) (vis st : List Nat) (iv : mI) (ar : mA) (la : mL) (pB : mA) (iw : mI) (aw : mA) : Prop := (tAll g0 kd0 lb0 m T ∧ grow g0 kd0 lb0 pt0 g kd lb pt ∧ tCl m T pB ∧ tRe m T aw) ∧ (gAll g kd lb pt iv ar la iw aw ∧ iw 24 = 0 ∧ iw 2 = m1) ∧ (yV g kd lb pt m T ty va nxf vis st ar aw ∧ vis.Nodup ∧ 0 ∈ vis) ∧ yS T g va nxf vis ar aw st ∧ iv 208 = nI st.length ∧ iw 53 = nI st.length
/-- what typing leaves alone -/
def fYc (iv : mI) (ar : mA) (iv2 : mI) (ar2 : mA) : Prop := (∀ k, k ≠ 303 → k ≠ 4 → k ≠ 5 → k ≠ 503 → k ≠ 208 → k ≠ 209 → iv2 k = iv k) ∧ (∀ k, k ≠ 300 → k ≠ 301 → k ≠ 302 → k ≠ 1 → k ≠ 2 → k ≠ 3 → k ≠ 204 → k ≠ 205 → k ≠ 206 → k ≠ 207 → ar2 k = ar k)
def fYr (iw : mI) (aw : mA) (iw2 : mI) (aw2 : mA) : Prop := (∀ k, k ≠ 2 → k ≠ 3 → k ≠ 17 → k ≠ 22 → k ≠ 24 → k ≠ 53 → iw2 k = iw k) ∧ (∀ k, k < 4 ∨ (21 < k ∧ k < 50) ∨ k = 53 ∨ 55 < k → aw2 k = aw k)
theorem fYc_t {iv iv2 iv3 : mI} {ar ar2 ar3 : mA} (h : fYc iv ar iv2 ar2) (h2 : fYc iv2 ar2 iv3 ar3) : fYc iv ar iv3 ar3 := ⟨fun k a b c d e f => by rw [h2.1 k a b c d e f, h.1 k a b c d e f], fun k a b c d e f g i j l => by rw [h2.2 k a b c d e f g i j l, h.2 k a b c d e f g i j l]⟩
theorem fYr_t {iv iv2 iv3 : mI} {ar ar2 ar3 : mA} (h : fYr iv ar iv2 ar2) (h2 : fYr iv2 ar2 iv3 ar3) : fYr iv ar iv3 ar3 := ⟨fun k a b c d e f => by rw [h2.1 k a b c d e f, h.1 k a b c d e f], fun k a => by rw [h2.2 k a, h.2 k a]⟩
/-- a term with a fault in its types -/
def yBad (g0 : Nat) (kd0 lb0 : Nat → Nat) (pt0 : Nat → Nat → Nat) (c : Int32) (iv2 : mI) (ar2 : mA) (la2 : mL) (iw2 : mI) (aw2 : mA) : Prop := (∃ (g2 : Nat) (kd2 lb2 : Nat → Nat) (pt2 : Nat → Nat → Nat), grow g0 kd0 lb0 pt0 g2 kd2 lb2 pt2 ∧ gAll g2 kd2 lb2 pt2 iv2 ar2 la2 iw2 aw2) ∧ ((c = m15 ∧ iw2 24 = m15 ∧ iw2 2 = iv2 209) ∨ (c = m3 ∧ iw2 24 = m3 ∧ iw2 2 = m1))
theorem bnd_keep {aw aw2 : mA} {va va2 : Nat → Nat} : ∀ (s : List Nat), (∀ i, i < s.length → aw2 55 i = aw 55 i) → (∀ y, y ∈ s → va2 y = va y) → bnd aw va s → bnd aw2 va2 s
  | [], _, _, _ => trivial
  | y :: s, h, hv, ⟨h1, h2⟩ => ⟨by rw [h s.length (by rw [List.length_cons]; omega), hv y List.mem_cons_self]; exact h1, bnd_keep s (fun i hi => h i (by rw [List.length_cons]; omega)) (fun z hz => hv z (List.mem_cons_of_mem _ hz)) h2⟩
theorem yS_vis {T : TT} {g : Nat} {va nxf : Nat → Nat} {vis : List Nat} {ar aw : mA} : ∀ (st : List Nat), yS T g va nxf vis ar aw st → ∀ x, x ∈ st → x ∈ vis
  | [], _, x, hx => by cases hx
  | k :: st, ⟨⟨_, _, _, ⟨d1, _⟩⟩, h2⟩, x, hx => by
    rcases List.mem_cons.mp hx with rfl | hx
    · exact d1
    · exact yS_vis st h2 x hx
theorem yS_keep {T : TT} {g g2 : Nat} {va va2 nxf nxf2 : Nat → Nat} {vis vis2 : List Nat} {ar aw ar2 aw2 : mA} (hg : g ≤ g2) : ∀ (st : List Nat), (∀ i, i < st.length → ar2 206 i = ar 206 i ∧ ar2 207 i = ar 207 i ∧ aw2 50 i = aw 50 i ∧ aw2 51 i = aw 51 i ∧ aw2 52 i = aw 52 i) → (∀ k, k ∈ st → nxf2 k = nxf k ∧ (k ∈ vis → k ∈ vis2) ∧ (∀ i, i < (tSc T k).length → aw2 55 i = aw 55 i) ∧ ∀ y, y ∈ tSc T k → va2 y = va y ∧ ar2 205 (tPl T y) = ar 205 (tPl T y)) → yS T g va nxf vis ar aw st → yS T g2 va2 nxf2 vis2 ar2 aw2 st
  | [], _, _, _ => trivial
  | k :: st, h, hk, ⟨⟨⟨a1, a2⟩, ⟨b1, b2, b3⟩, ⟨c1, c2⟩, ⟨d1, d2⟩⟩, h2⟩ => by
    obtain ⟨e1, e2, e3, e4, e5⟩ := h st.length (by rw [List.length_cons]; omega)
    obtain ⟨f1, f2, f3, f4⟩ := hk k List.mem_cons_self
    refine ⟨⟨⟨by rw [e1]; exact a1, by rw [e2, f1]; exact a2⟩, ⟨by rw [e3]; exact b1, by rw [e4, f1]; exact b2, by rw [e5]; exact b3⟩, ⟨bnd_keep _ f3 (fun y hy => (f4 y hy).1) c1, fun y hy => ?_⟩, ⟨f2 d1, d2⟩⟩, yS_keep hg st (fun i hi => h i (by rw [List.length_cons]; omega)) (fun x hx => hk x (List.mem_cons_of_mem _ hx)) h2⟩
    rw [(f4 y hy).1, (f4 y hy).2]
    exact ⟨Nat.lt_of_lt_of_le (c2 y hy).1 hg, (c2 y hy).2⟩
section
variable {g0 : Nat} {kd0 lb0 : Nat → Nat} {pt0 : Nat → Nat → Nat} {g : Nat} {kd lb : Nat → Nat} {pt : Nat → Nat → Nat} {m : Nat} {T : TT} {ty va nxf : Nat → Nat} {vis st : List Nat} {k : Nat} {iv : mI} {ar : mA} {la : mL} {pA pB : mA} {iw : mI} {aw : mA}
/-- a term whose terms all have their types -/
theorem popY (h : yAll g0 kd0 lb0 pt0 g kd lb pt m T ty va nxf vis (k :: st) iv ar la pB iw aw) (hn : nxf k = tNk T k) {t n n2 : Nat} (ht : t ≤ 400) (l2 : Int32) :
    (∃ (τ g2 : Nat) (kd2 lb2 : Nat → Nat) (pt2 : Nat → Nat → Nat) (iv2 : mI) (ar2 : mA) (la2 : mL) (iw2 : mI) (aw2 : mA), yAll g0 kd0 lb0 pt0 g2 kd2 lb2 pt2 m T (va_up ty k τ) va nxf vis st iv2 ar2 la2 pB iw2 aw2 ∧ τ < g2 ∧ mX2_check_L24 (n + 1) l2 (nI t) iv ar la pA pB = mX2_check_L24 n (nI τ) (nI (t + 1)) iv2 ar2 la2 pA pB ∧ mX12_typeTerms_L11 (n2 + 2) iw aw = mX12_typeTerms_L11 (n2 + 1) iw2 aw2 ∧ fYc iv ar iv2 ar2 ∧ fYr iw aw iw2 aw2) ∨
    (∃ (c : Int32) (iv2 : mI) (ar2 : mA) (la2 : mL) (iw2 : mI) (aw2 : mA), mX2_check_L24 (n + 1) l2 (nI t) iv ar la pA pB = some (c, iv2, ar2, la2, pA, pB) ∧ mX12_typeTerms_L11 (n2 + 2) iw aw = some (0, iw2, aw2) ∧ yBad g0 kd0 lb0 pt0 c iv2 ar2 la2 iw2 aw2 ∧ fYc iv ar iv2 ar2 ∧ fYr iw aw iw2 aw2) := by
  obtain ⟨⟨hA, hgr, hcl, hre⟩, ⟨hg, h24, h2⟩, ⟨hV, hnd, h0⟩, ⟨⟨⟨a1, a2⟩, ⟨b1, b2, b3⟩, ⟨c1, c2⟩, ⟨d1, d2, d3⟩⟩, hS⟩, o1, o2⟩ := h
  rw [List.length_cons] at o1 o2
  have hk := (hV k d1).1.1
  have hk2 : k < 200 := Nat.lt_of_lt_of_le hk hA.2.1
  have hL : st.length < 200 := by omega
  have hp := (hA.2.2 k hk).1.2.2
  have h9 := hOK9 (hA.2.2 k hk).1.1
  have a38 : aw 38 k = nI (tNk T k) := by rw [(hre k hk).1.2.2.2.2, tAll_mn hA hk]
  -- the terms in it
  have hkids : ∀ i, i < tNk T k → tIn T k i ∈ vis ∧ tIn T k i ∉ k :: st ∧ k < tIn T k i := fun i hi => by
    obtain ⟨j, j1, j2⟩ := tTp_sur hi
    have hin := tKt_in hA hk j1
    unfold tKt at hin
    rw [j2] at hin
    have hm := (hV k d1).1.2.2.2.1 j (by omega)
    unfold tKt at hm
    rw [j2] at hm
    refine ⟨hm, fun hh => ?_, hin.1⟩
    rcases List.mem_cons.mp hh with e | hh
    · omega
    · have := (d3 _ hh).1
      omega
  have hKA : kAll g0 kd0 lb0 g kd lb pt m T ty va k (va_up iv 208 (nI st.length)) ar la pB iw aw := by
    refine ⟨⟨hA, fun t ht => ⟨Nat.lt_of_lt_of_le ht hgr.1, (hgr.2.2 t ht).1, (hgr.2.2 t ht).2.1⟩⟩, ⟨hcl, hre, hk⟩, ⟨⟨hg.1, hg.2.1, ⟨hg.2.2.1.1, hg.2.2.1.2⟩, hg.2.2.2.1, ordI_keep rfl hg.2.2.2.2⟩, h24⟩, fun i hi => ?_, c2, c1⟩
    obtain ⟨m1', m2', _⟩ := hkids i hi
    obtain ⟨-, q1, q2, q3, -⟩ := (hV _ m1').2.1 m2'
    exact ⟨q1, q2, q3⟩
  have eC : ∀ n, mX2_check_L24 (n + 1) l2 (nI t) iv ar la pA pB = obc (obc (mX2_typeOf (nI (tPl T k)) (va_up iv 208 (nI st.length)) ar la pA pB) (fun r91 iv91 ar91 la91 pA91 pB91 => mX2_joinBranches (nI (tPl T k)) r91 iv91 ar91 la91 pA91 pB91)) (fun r94 iv94 ar94 la94 pA94 pB94 => obc (mX2_setType (nI (tPl T k)) r94 iv94 ar94 la94 pA94 pB94) (fun r102 iv102 ar102 la102 pA102 pB102 => mX2_check_J141 (mX2_check_L24 n) r94 (nI t) iv102 ar102 la102 pA102 pB102)) := by
    intro n
    conv => lhs; rw [mX2_check_L24]
    rw [o1, if_neg (show ¬ nI (st.length + 1) ≤ (0 : Int32) from nI_ge (show 0 < st.length + 1 by omega) (by omega)), if_neg (show ¬ (400 : Int32) < nI t from nI_nlt ht (by decide)), nsub1, if_neg (by first | exact nI_in (by omega) (by omega) | exact nI_inn (by omega) (by omega)), if_neg (by first | exact nI_in (by omega) (by omega) | exact nI_inn (by omega) (by omega)), ncl (by omega), a1, a2, hn, c_kidT hA hcl hk (Nat.le_refl _), obce, if_neg (Nat.lt_irrefl _), if_pos rfl]
    cases mX2_typeOf (nI (tPl T k)) (va_up iv 208 (nI st.length)) ar la pA pB with
    | none => rfl
    | some x => rfl
  have eR : ∀ n2, mX12_typeTerms_L11 (n2 + 1) iw aw = ob (mX12_typeDone (nI k) (nI (tSc T k).length) iw aw) (fun r134 iv134 ar134 => mX12_typeTerms_L11 n2 (va_up iv134 53 ((iv134 53) - 1)) (au ar134 54 k r134)) := by
    intro n2
    conv => lhs; rw [mX12_typeTerms_L11]
    rw [o2, if_neg (show ¬ nI (st.length + 1) ≤ (0 : Int32) from nI_ge (show 0 < st.length + 1 by omega) (by omega)), if_pos h24, nsub1, if_neg (by first | exact nI_in (by omega) (by omega) | exact nI_inn (by omega) (by omega)), if_neg (by first | exact nI_in (by omega) (by omega) | exact nI_inn (by omega) (by omega)), ncl (by omega), b1, if_neg (by first | exact nI_in (by omega) (by omega) | exact nI_inn (by omega) (by omega)), ncl (show k < 2147483648 by omega), a38, b2, hn, if_pos (nI_le (Nat.le_refl _) (by omega)), if_neg (by first | exact nI_in (by omega) (by omega) | exact nI_inn (by omega) (by omega)), b3]
    simp only [if_neg (nI_inn (a := k) (N := 200) (by omega) (by omega))]
  obtain ⟨c, r, g2, kd2, lb2, pt2, iv2, ar2, la2, iw2, aw2, q1, q2, q3, q4, q5, q6, q7⟩ := ty_all (pA := pA) hKA
  have hset : ∀ (c : Int32) (iv3 : mI) (ar3 : mA) (la3 : mL), mX2_setType (nI (tPl T k)) c iv3 ar3 la3 pA pB = some (0, (if c = -15 then va_up iv3 209 (nI (tPl T k)) else iv3), au ar3 204 (tPl T k) c, la3, pA, pB) := by
    intro c iv3 ar3 la3
    have h11 : ∀ iv4 : mI, mX2_setType_J11 (nI (tPl T k)) c iv4 ar3 la3 pA pB = some (0, iv4, au ar3 204 (tPl T k) c, la3, pA, pB) := by
      intro iv4
      unfold mX2_setType_J11
      rw [if_neg (nI_pos (by omega)), if_neg (show ¬ (200 : Int32) ≤ nI (tPl T k) from nI_ge hp (by decide)), if_neg (by first | exact nI_in (by omega) (by omega) | exact nI_inn (by omega) (by omega)), ncl (by omega)]
    unfold mX2_setType
    rw [h11, h11]
    by_cases e : c = -15
    · rw [if_pos e, if_pos e]
    · rw [if_neg e, if_neg e]
  have h53 : iw2 53 = nI (st.length + 1) := by rw [q6.1 53 (by decide) (by decide) (by decide) (by decide) (by decide)]; exact o2
  have h208 : iv2 208 = nI st.length := by rw [q5.1 208 (by decide) (by decide) (by decide) (by decide)]; rfl
  have fc : ∀ (iv3 : mI) (c : Int32), (∀ x, x ≠ 209 → iv3 x = iv2 x) → fYc iv ar iv3 (au ar2 204 (tPl T k) c) := fun iv3 c h3 => ⟨fun x a b c d e f => by rw [h3 x f, q5.1 x a b c d, va_up_ne _ _ e], fun x a b c d e f g i j l => by rw [au_ne _ g, q5.2 x a b c d e f]⟩
  have fr : ∀ w v : Int32, fYr iw aw (va_up iw2 53 w) (au aw2 54 k v) := fun w v => ⟨fun x a b c d e f => by rw [va_up_ne _ _ f, q6.1 x a b c d e], fun x hx => by rw [au_ne _ (by omega), q6.2 x (by omega)]⟩
  rcases q7 with ⟨τ, t1, rfl, rfl, t4, t5, t6⟩ | hbad
  · have hne15 : ¬ nI τ = -15 := fun e => by
      have := q4.1
      have h1 := congrArg Int32.toInt e
      rw [nI_toInt (by omega), show (-15 : Int32).toInt = -15 by decide] at h1
      omega
    have hne3 : ¬ nI τ = -3 := fun e => by
      have := q4.1
      have h1 := congrArg Int32.toInt e
      rw [nI_toInt (by omega), show (-3 : Int32).toInt = -3 by decide] at h1
      omega
    refine Or.inl ⟨τ, g2, kd2, lb2, pt2, iv2, au ar2 204 (tPl T k) (nI τ), la2, va_up iw2 53 (nI st.length), au aw2 54 k (nI τ), ⟨⟨hA, grow_t hgr q3, hcl, ?_⟩, ⟨⟨q4.1, q4.2.1, ⟨q4.2.2.1.1, q4.2.2.1.2⟩, ⟨q4.2.2.2.1.1, q4.2.2.2.1.2⟩, q4.2.2.2.2⟩, t4, by show iw2 2 = m1; rw [t5, h2]⟩, ⟨fun v hv => ?_, hnd, h0⟩, ?_, h208, rfl⟩, t1, ?_, ?_, fc iv2 _ (fun _ _ => rfl), fr _ _⟩
    · have := tRe_keep (fun j hj => q6.2 j hj) hre
      exact this
    · obtain ⟨⟨v1, v2, v3, v4, v5⟩, v6, v7⟩ := hV v hv
      refine ⟨⟨v1, v2, v3, v4, v5⟩, fun hns => ?_, fun j hj hb => ?_⟩
      · by_cases ev : v = k
        · subst ev
          refine ⟨hn, by rw [va_up_self]; exact t1, by rw [va_up_self, au_self], by rw [va_up_self, au_self], ?_, fun i hi => ?_⟩
          · rw [va_up_self]
            refine tyR_move hA hk q4.2.1 (grow_r q4.1) t1 (fun i hi => ⟨va_up_ne _ _ (by have := (hkids i hi).2.2; omega), ?_⟩) (fun _ _ => rfl) t6
            exact Nat.lt_of_lt_of_le ((hV _ (hkids i hi).1).2.1 (hkids i hi).2.1).2.1 q3.1
          · exact fun hh => (hkids i hi).2.1 (List.mem_cons_of_mem _ hh)
        · have hns2 : v ∉ k :: st := fun hh => by
            rcases List.mem_cons.mp hh with e | hh
            · exact ev e
            · exact hns hh
          obtain ⟨w1, w2, w3, w4, w5, w6⟩ := v6 hns2
          have hpl : tPl T v ≠ tPl T k := fun e => by
            rcases Nat.lt_or_ge v k with hlt | hge
            · have := hcl.1 v k hlt hk; omega
            · have := hcl.1 k v (by omega) v1; omega
          refine ⟨w1, by rw [va_up_ne _ _ ev]; exact Nat.lt_of_lt_of_le w2 q3.1, by rw [va_up_ne _ _ ev, au_ni _ hpl, q5.2 204 (by decide) (by decide) (by decide) (by decide) (by decide) (by decide)]; exact w3, by rw [va_up_ne _ _ ev, au_ni _ ev, q6.2 54 (by decide)]; exact w4, ?_, fun i hi hh => w6 i hi (List.mem_cons_of_mem _ hh)⟩
          rw [va_up_ne _ _ ev]
          refine tyR_move hA v1 hg.2.1 q3 w2 (fun i hi => ?_) (fun _ _ => rfl) w5
          have hni := w6 i hi
          have hne : tIn T v i ≠ k := fun e => hni (by rw [e]; exact List.mem_cons_self)
          obtain ⟨j, j1, j2⟩ := tTp_sur hi
          have hm := v4 j (by omega)
          unfold tKt at hm
          rw [j2] at hm
          exact ⟨va_up_ne _ _ hne, ((hV _ hm).2.1 hni).2.1⟩
      · obtain ⟨w1, w2, w3, w4⟩ := v7 j hj hb
        refine ⟨Nat.lt_of_lt_of_le w1 q3.1, by rw [au_ne _ (by decide), q5.2 205 (by decide) (by decide) (by decide) (by decide) (by decide) (by decide)]; exact w2, vaR_move q3 (fun e32 hi => ?_) rfl w3, fun e32 => ⟨(w4 e32).1, fun hh => (w4 e32).2 (List.mem_cons_of_mem _ hh)⟩⟩
        obtain ⟨z1, z2⟩ := w4 e32
        have hne : tIn T v (tNk T v - 1) ≠ k := fun e => z2 (by rw [e]; exact List.mem_cons_self)
        exact ⟨va_up_ne _ _ hne, ((hV _ z1).2.1 z2).2.1⟩
    · refine yS_keep q3.1 st (fun i hi => ?_) (fun x hx => ⟨rfl, id, fun i hi => ?_, fun y hy => ⟨rfl, ?_⟩⟩) hS
      · rw [au_ne _ (by decide), au_ne _ (by decide), au_ne _ (by decide), au_ne _ (by decide), au_ne _ (by decide), q5.2 206 (by decide) (by decide) (by decide) (by decide) (by decide) (by decide), q5.2 207 (by decide) (by decide) (by decide) (by decide) (by decide) (by decide), q6.2 50 (by decide), q6.2 51 (by decide), q6.2 52 (by decide)]
        exact ⟨rfl, rfl, rfl, rfl, rfl⟩
      · rw [au_ne _ (by decide), q6.2 55 (by decide)]
      · rw [au_ne _ (by decide), q5.2 205 (by decide) (by decide) (by decide) (by decide) (by decide) (by decide)]
    · rw [eC, q1, obce, hset, obce, if_neg hne15]
      unfold mX2_check_J141
      rw [if_neg hne15, if_neg hne3, show nI t + 1 = nI (t + 1) from nadd _ 1]
    · rw [eR, q2, obe, h53, nsub1]
  · refine Or.inr ⟨c, (if c = -15 then va_up iv2 209 (nI (tPl T k)) else iv2), au ar2 204 (tPl T k) c, la2, va_up iw2 53 (nI st.length), au aw2 54 k r, ?_, ?_, ⟨⟨g2, kd2, lb2, pt2, grow_t hgr q3, q4.1, q4.2.1, ?_, ⟨q4.2.2.2.1.1, q4.2.2.2.1.2⟩, ?_⟩, ?_⟩, fc _ _ (fun x hx => ?_), fr _ _⟩
    · rw [eC, q1, obce, hset, obce]
      unfold mX2_check_J141
      rcases hbad with ⟨e, -⟩ | ⟨e, -⟩
      · rw [if_pos (show c = -15 from e)]
      · rw [if_neg (show ¬ c = -15 by rw [e]; decide), if_pos (show c = -3 from e)]
    · rw [eR (n2 + 1), q2, obe, h53, nsub1, mX12_typeTerms_L11]
      have h24' : ¬ (va_up iw2 53 (nI st.length)) 24 = 0 := by
        show ¬ iw2 24 = 0
        rcases hbad with ⟨-, e, -⟩ | ⟨-, e, -⟩ <;> rw [e] <;> decide
      by_cases e : (va_up iw2 53 (nI st.length)) 53 ≤ 0
      · rw [if_pos e]
      · rw [if_neg e, if_neg h24']
    · by_cases e : c = -15
      · rw [if_pos e]; exact ⟨q4.2.2.1.1, q4.2.2.1.2⟩
      · rw [if_neg e]; exact ⟨q4.2.2.1.1, q4.2.2.1.2⟩
    · by_cases e : c = -15
      · rw [if_pos e]; exact ordI_keep rfl q4.2.2.2.2
      · rw [if_neg e]; exact q4.2.2.2.2
    · rcases hbad with ⟨e1, e2, e3⟩ | ⟨e1, e2, e3⟩
      · refine Or.inl ⟨e1, e2, ?_⟩
        rw [if_pos (show c = -15 from e1)]
        exact e3
      · exact Or.inr ⟨e1, e2, by show iw2 2 = m1; rw [e3, h2]⟩
    · by_cases e : c = -15
      · rw [if_pos e]; exact va_up_ne _ _ hx
      · rw [if_neg e]
end
