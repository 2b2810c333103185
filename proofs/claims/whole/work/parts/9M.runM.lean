section
variable {g0 : Nat} {kd0 lb0 : Nat → Nat} {g : Nat} {kd lb : Nat → Nat} {pt : Nat → Nat → Nat} {m : Nat} {T : TT} {ty va τ : Nat → Nat} {vis : List Nat} {nv nc s : Nat} {pn : Int32} {fs : List (Nat × Int32 × Nat)} {k : Nat} {c : Int32} {iv : mI} {ar : mA} {la : mL} {pA pB : mA} {iw : mI} {aw : mA} {iv0 : mI} {ar0 : mA} {iw0 : mI} {aw0 : mA}
theorem c_gott {L i : Nat} (hL : L < 300) (hi : i < 8) : mX4_gottenBy (nI L) (nI i) iv ar la pA pB = some (ar 406 (L * 8 + i), iv, ar, la, pA, pB) := by
  unfold mX4_gottenBy
  rw [if_neg (nI_pos (show L < 2147483648 by omega)), if_neg (show ¬ (300 : Int32) ≤ nI L from nI_ge hL (by decide)), if_neg (nI_pos (show i < 2147483648 by omega)), if_neg (show ¬ (8 : Int32) ≤ nI i from nI_ge hi (by decide)), show nI L * 8 + nI i = nI (L * 8 + i) by rw [show (8 : Int32) = nI 8 from rfl, nmul, nadd], if_neg (nI_in (c := L * 8 + i) (N := 2400) (by omega) (by decide)), ncl (by omega)]
theorem c_gott0 {L : Nat} (hL : L < 300) : mX4_gottenBy (nI L) 0 iv ar la pA pB = some (ar 406 (L * 8), iv, ar, la, pA, pB) := c_gott (i := 0) hL (by decide)
theorem c_needed (hX : rCx g0 kd0 lb0 g kd lb pt m T ty va vis pA) (hk : k < m) : mX4_neededBy (nI (tPl T k)) iv ar la pA pB = some (nI (tNd T k), iv, ar, la, pA, pB) := by
  have hw := (hX.1.2.2 k hk).1.1.1
  unfold mX4_neededBy tNd
  rw [c_wordA hX.1 hX.2.1 hk, obce]
  by_cases e : tWd T k = 28
  · rw [if_pos (show nI (tWd T k) = 28 by rw [e]; rfl), if_pos (Or.inl e)]
    rfl
  · rw [if_neg (show ¬ nI (tWd T k) = 28 from fun q => e ((nI_eq (b := 28) (by omega) (by decide)).mp q))]
    by_cases e2 : tWd T k = 32
    · rw [if_pos (show nI (tWd T k) = 32 by rw [e2]; rfl), if_pos (Or.inr e2)]
      rfl
    · rw [if_neg (show ¬ nI (tWd T k) = 32 from fun q => e2 ((nI_eq (b := 32) (by omega) (by decide)).mp q)), c_countA hX.1 hX.2.1 hk, obce, if_neg (by omega)]
/-- a value that was got is stored, in both -/
theorem g_pt {n v N n2 F lim t : Nat} (hX : rCx g0 kd0 lb0 g kd lb pt m T ty va vis pA) (h : mSt g kd lb pt m T ty va τ vis nv nc s m1 ((k, c, n) :: fs) iv ar iw aw) (hd : gSt kd lb pt T ty τ nv ((k, c, n) :: fs) v iv iw) (ht : t + fs.length + 2 ≤ 2 * s) (hF : 4000 + (fs.length + 1) ≤ F) : ∃ F2 ar2 aw2, 4000 + fs.length ≤ F2 ∧
    ((k ∈ vis ∧ n + 1 ≤ tNd T k ∧ tWd T k ≠ 20 ∧ tWd T k ≠ 21 ∧ tWd T k ≠ 33 ∧ fs.length < 300) ∧ vR nv iv ar2 iw aw2 ∧ cR nc iv ar2 iw aw2 ∧ vT g kd lb pt T ty va τ vis nv nc m1 ar2 aw2 ∧ fO kd lb pt T ty va τ vis nv nc ar2 aw2 fs ∧ tDo m T aw2 ∧ eOK kd lb pt va τ nv nc ar2 (tSc T k) c ∧ exB kd lb pt T ty (ty k) fs ∧ (∀ j, j < n + 1 → ∃ w, w < nv ∧ ar2 406 (fs.length * 8 + j) = nI w ∧ aw2 70 (9 * fs.length + j) = nI w ∧ blw kd lb pt (τ w) (ty (tKt T k j)) ∧ (j = n → w = v)) ∧ (ar2 403 fs.length = nI (tPl T k) ∧ ar2 404 fs.length = c ∧ ar2 405 fs.length = nI (n + 1)) ∧ (aw2 66 fs.length = nI k ∧ aw2 67 fs.length = c ∧ aw2 68 fs.length = nI (n + 1)) ∧ fRc iv ar iv ar2 ∧ fRr iw aw iw aw2) ∧
    mX4_perform_L22 (N + 1) (nI lim) (nI t) iv ar la pA pB = obc (mX4_resume_J67 (nI fs.length) (nI (tPl T k)) iv ar2 la pA pB) (fun _ iv105 ar105 la105 pA105 pB105 => mX4_perform_J108 (mX4_perform_L22 N) (nI lim) (nI t) iv105 ar105 la105 pA105 pB105) ∧ rGo n2 F lim (fs.length + 1) (nI v) iw aw = ob (mX12_goOn_J61 (mX12_goOn_L2 F2) (nI fs.length) (nI k) iw aw2) (fun r129 iv129 ar129 => mX12_run_L63 n2 (nI lim) r129 iv129 ar129) ∧ mX12_wantsMore (nI fs.length) (nI k) iw aw2 = if n + 1 < tNd T k then some (1, va_up (va_up (va_up iw 73 (nI (tKt T k (n + 1)))) 74 c) 75 (-1), aw2) else some (0, iw, aw2) := by
  obtain ⟨⟨⟨⟨v1, v2, v3⟩, v4⟩, ⟨c1, c2⟩, c3⟩, ⟨b3, ⟨⟨⟨x1, x2, x3⟩, ⟨y1, y2, y3⟩, ⟨k1, k2, k3, k4, k5⟩, he, hvals, hex⟩, b4⟩⟩, ⟨o1, o2, o3⟩, ⟨s1, s2, s3, s4⟩, z1, z2⟩ := h
  obtain ⟨⟨g1, g2, g3⟩, g4, g5, g6⟩ := hd
  rw [List.length_cons] at o1 o2 o3
  obtain ⟨u1, u2, u3, u4, u5, u6⟩ := sc_turn hX k1 k4 k5 k2
  have hkm := (hX.2.2.2.2 k k1).1
  have hk2 : k < 200 := Nat.lt_of_lt_of_le hkm hX.1.2.1
  have hfo : ∀ f, f ∈ fs → f.2.2 < 9 := fO_n9 hX.1 hX.2.2 fs b4
  have hz2 : tDo m T (au (au aw 70 (9 * fs.length + n) (nI v)) 68 fs.length (nI (n + 1))) := z2
  have hwant := r_wants (iw := iw) (aw := au (au aw 70 (9 * fs.length + n) (nI v)) 68 fs.length (nI (n + 1))) (f := fs.length) (n := n + 1) hX.1 hz2 hkm (by omega) (by rw [au_self]) (by omega)
  have e67 : (au (au aw 70 (9 * fs.length + n) (nI v)) 68 fs.length (nI (n + 1))) 67 fs.length = c := y2
  rw [e67, u5] at hwant
  obtain ⟨F2, rfl⟩ : ∃ x, F = x + 1 := ⟨F - 1, by omega⟩
  refine ⟨F2, au (au ar 406 (fs.length * 8 + n) (nI v)) 405 fs.length (nI (n + 1)), au (au aw 70 (9 * fs.length + n) (nI v)) 68 fs.length (nI (n + 1)), by omega, ⟨⟨k1, k2, k3, k4, k5, by omega⟩, ⟨⟨v1, v2, v3⟩, v4⟩, ⟨⟨c1, c2⟩, c3⟩, vT_r b3 (fun r hr => by rw [au_ne _ (by omega), au_ne _ (by omega)]) rfl rfl, fO_up (ar := ar) (ar2 := au (au ar 406 (fs.length * 8 + n) (nI v)) 405 fs.length (nI (n + 1))) (aw := aw) (aw2 := au (au aw 70 (9 * fs.length + n) (nI v)) 68 fs.length (nI (n + 1))) (τ := τ) (Nat.le_refl _) (Nat.le_refl _) (fun _ _ => ⟨rfl, rfl⟩) (fun _ _ => rfl) fs (fun i hi => ⟨rfl, rfl, ?_, rfl, rfl, ?_⟩) (fun i hi => ?_) (fun i hi => ?_) hfo b4, hz2, eOK_r (ar := ar) rfl rfl he, hex, fun j hj => ?_, ⟨x1, x2, ?_⟩, ⟨y1, y2, ?_⟩, ⟨fun _ _ _ _ => rfl, fun x hx => ?_⟩, ⟨fun _ _ => rfl, fun x hx => ?_⟩⟩, ?_, ?_, hwant⟩
  · rw [au_ni _ (by omega), au_ne _ (by decide)]
  · rw [au_ni _ (by omega), au_ne _ (by decide)]
  · rw [au_ne _ (by decide), au_ni _ (by omega)]
  · rw [au_ne _ (by decide), au_ni _ (by omega)]
  · by_cases e : j = n
    · refine ⟨v, g5, ?_, ?_, ?_, fun _ => rfl⟩
      · rw [e, au_ne _ (by decide), au_self]
      · rw [e, au_ne _ (by decide), au_self]
      · rw [e]
        exact g6
    · obtain ⟨w, w1, w2, w3, w4⟩ := hvals j (by omega)
      refine ⟨w, w1, ?_, ?_, w4, fun q => absurd q e⟩
      · rw [au_ne _ (by decide), au_ni _ (by omega)]
        exact w2
      · rw [au_ne _ (by decide), au_ni _ (by omega)]
        exact w3
  · rw [au_self]
  · rw [au_self]
  · rw [au_ne _ (by omega), au_ne _ (by omega)]
  · rw [au_ne _ (by omega), au_ne _ (by omega)]
  · conv => lhs; rw [mX4_perform_L22]
    rw [if_neg (show ¬ (40002 : Int32) ≤ nI t from nI_ge (show t < 40002 by omega) (by decide)), if_pos (show iv 409 = -1 from g1), o1, if_neg (show ¬ nI (fs.length + 1) = 0 from fun q => by have := (nI_eq (b := 0) (by omega) (by decide)).mp q; omega)]
    unfold mX4_perform_J48
    rw [if_pos (show iv 409 = -1 from g1)]
    unfold mX4_resume
    rw [o1, nsub1, if_neg (nI_pos (show fs.length < 2147483648 by omega)), if_pos (show nI fs.length < (300 : Int32) from nI_lt (show fs.length < 300 by omega) (by decide)), if_neg (nI_in (c := fs.length) (N := 300) (by omega) (by decide)), if_neg (nI_in (c := fs.length) (N := 300) (by omega) (by decide)), ncl (show fs.length < 2147483648 by omega), x3, if_neg (show ¬ (8 : Int32) ≤ nI n from nI_ge u4 (by decide)), if_neg (nI_inn (a := fs.length) (N := 300) (by omega) (by omega)), show nI fs.length * 8 + nI n = nI (fs.length * 8 + n) by rw [show (8 : Int32) = nI 8 from rfl, nmul, nadd], if_neg (nI_in (c := fs.length * 8 + n) (N := 2400) (by omega) (by decide)), if_neg (nI_inn (a := fs.length) (N := 300) (by omega) (by omega)), if_neg (nI_inn (a := fs.length) (N := 300) (by omega) (by omega)), ncl (show fs.length * 8 + n < 2147483648 by omega), g2, x1, show (au ar 406 (fs.length * 8 + n) (nI v)) 405 fs.length = nI n from x3, show nI n + 1 = nI (n + 1) from nadd _ 1]
  · unfold rGo
    rw [if_neg (by omega)]
    conv => lhs; rw [mX12_goOn_L2]
    rw [g4, if_neg (show ¬ (0 : Int32) ≤ m1 by decide), if_pos z1, o2, nsub1, if_neg (nI_in (c := fs.length) (N := 301) (by omega) (by decide)), if_neg (nI_pos (show v < 2147483648 by omega)), if_neg (nI_in (c := fs.length) (N := 301) (by omega) (by decide)), ncl (show fs.length < 2147483648 by omega), y3, show (9 : Int32) * nI fs.length + nI n = nI (9 * fs.length + n) by rw [show (9 : Int32) = nI 9 from rfl, nmul, nadd], if_neg (nI_in (c := 9 * fs.length + n) (N := 2709) (by omega) (by decide)), if_neg (nI_inn (a := fs.length) (N := 301) (by omega) (by omega)), if_neg (nI_inn (a := fs.length) (N := 301) (by omega) (by omega)), ncl (show 9 * fs.length + n < 2147483648 by omega), y1, show (au aw 70 (9 * fs.length + n) (nI v)) 68 fs.length = nI n from y3, show nI n + 1 = nI (n + 1) from nadd _ 1]
/-- a term that wants another one -/
theorem gMore {n v N n2 F lim t : Nat} (hX : rCx g0 kd0 lb0 g kd lb pt m T ty va vis pA) (h : mSt g kd lb pt m T ty va τ vis nv nc s m1 ((k, c, n) :: fs) iv ar iw aw) (hd : gSt kd lb pt T ty τ nv ((k, c, n) :: fs) v iv iw) (hn : n + 1 < tNd T k) (ht : t + fs.length + 2 ≤ 2 * s) (hF : 4000 + (fs.length + 1) ≤ F) : tuO g kd lb pt m T ty va vis N n2 lim t s iv ar la pA pB iw aw (mX4_perform_L22 (N + 1) (nI lim) (nI t) iv ar la pA pB) (rGo n2 F lim (fs.length + 1) (nI v) iw aw) := by
  obtain ⟨F2, ar2, aw2, hF2, ⟨⟨k1, k2, k3, k4, k5, k6⟩, vr, cr, vt, fo, hdo, he, hex, hvals, ⟨x1, x2, x3⟩, ⟨y1, y2, y3⟩, f1, f2⟩, hC, hR, hw⟩ := g_pt (la := la) (pB := pB) (N := N) (n2 := n2) (lim := lim) hX h hd ht hF
  obtain ⟨u1, u2, u3, u4, u5, u6⟩ := sc_turn hX k1 k4 k5 hn
  have hkm := (hX.2.2.2.2 k k1).1
  have hkt := (tKt_in hX.1 hkm u3).2.1
  have hp := (hX.1.2.2 _ hkt).1.2.2
  have hkt2 : tKt T k (n + 1) < 200 := Nat.lt_of_lt_of_le hkt hX.1.2.1
  have h9 := hOK9 (hX.1.2.2 k hkm).1.1
  have hnd9 : tNd T k ≤ 9 := by
    unfold tNd
    by_cases e : tWd T k = 28 ∨ tWd T k = 32
    · rw [if_pos e]; omega
    · rw [if_neg e]; exact h9
  rw [if_pos hn] at hw
  have hB : mX4_resume_J67 (nI fs.length) (nI (tPl T k)) iv ar2 la pA pB = some (0, va_up (va_up iv 409 (nI (tPl T (tKt T k (n + 1))))) 410 c, ar2, la, pA, pB) := by
    have hkt := c_kidTA (iv := iv) (ar := ar2) (la := la) (pB := pB) (j := n + 1) hX.1 hX.2.1 hkm (by omega)
    rw [if_pos u3] at hkt
    unfold mX4_resume_J67 mX4_want
    rw [if_neg (nI_in (c := fs.length) (N := 300) (by omega) (by decide)), c_needed hX hkm, obce, ncl (show fs.length < 2147483648 by omega), x3, if_neg (nI_ge hn (by omega)), if_neg (nI_inn (a := fs.length) (N := 300) (by omega) (by omega)), hkt, obce, if_neg (nI_inn (a := fs.length) (N := 300) (by omega) (by omega)), x2, obce]
  rw [hC, c_wanted hB rfl (by omega), hR, r_mor hw (show (0 : Int32) ≤ nI (tKt T k (n + 1)) from nI_pos' (by omega)) (by omega)]
  have hl : ((k, c, n) :: fs).length = ((k, c, n + 1) :: fs).length := rfl
  obtain ⟨-, -, ⟨o1, o2, o3⟩, ⟨s1, s2, s3, s4⟩, z1, z2⟩ := h
  refine Or.inl ⟨τ, nv, nc, m1, (k, c, n + 1) :: fs, tKt T k (n + 1), c, _, _, _, _, rfl, rfl, ⟨⟨vr, cr⟩, ⟨vt, ⟨⟨⟨x1, x2, x3⟩, ⟨y1, y2, y3⟩, ⟨k1, hn, k3, k4, k5⟩, he, fun j hj => ?_, hex⟩, fo⟩⟩, ⟨o1, o2, o3⟩, ⟨s1, s2, s3, s4⟩, z1, hdo⟩, ⟨⟨rfl, rfl, hd.1.2.2⟩, ⟨rfl, rfl, rfl⟩, ⟨u1, by rw [u2]; exact he, blw_refl _⟩, Or.inl rfl⟩, by rw [List.length_cons]; omega, fRc_t f1 ⟨fun x a b c => by rw [va_up_ne _ _ (by omega), va_up_ne _ _ (by omega)], fun _ _ => rfl⟩, fRr_t f2 ⟨fun x hx => by rw [va_up_ne _ _ (by omega), va_up_ne _ _ (by omega), va_up_ne _ _ (by omega)], fun _ _ => rfl⟩⟩
  obtain ⟨w, w1, w2, w3, w4, -⟩ := hvals j hj
  exact ⟨w, w1, w2, w3, w4⟩
/-- the values of the terms in a term that is to be finished -/
def gV (kd lb : Nat → Nat) (pt : Nat → Nat → Nat) (T : TT) (ty τ : Nat → Nat) (nv L k : Nat) (iv : mI) (ar aw : mA) : Prop := ∀ j, j < tNd T k → ∃ w, w < nv ∧ ar 406 (L * 8 + j) = nI w ∧ aw 70 (9 * L + j) = nI w ∧ blw kd lb pt (τ w) (ty (tKt T k j)) ∧ (j + 1 = tNd T k → iv 412 = nI w)
/-- a term with all that it wants -/
theorem gFin {n v N n2 F lim t : Nat} (hX : rCx g0 kd0 lb0 g kd lb pt m T ty va vis pA) (h : mSt g kd lb pt m T ty va τ vis nv nc s m1 ((k, c, n) :: fs) iv ar iw aw) (hd : gSt kd lb pt T ty τ nv ((k, c, n) :: fs) v iv iw) (hn : n + 1 = tNd T k) (ht : t + fs.length + 2 ≤ 2 * s) (hF : 4000 + (fs.length + 1) ≤ F) (hn2 : 0 < n2)
  (hW : ∀ (iv2 : mI) (ar2 : mA) (aw2 : mA) (x : Int32), fPt g kd lb pt m T ty va τ vis nv nc s m1 fs k c iv2 ar2 iw aw2 iv ar iw aw → gV kd lb pt T ty τ nv fs.length k iv2 ar2 aw2 → iv2 409 = m1 → ar2 406 (fs.length * 8) = x → tWd T k ≠ 20 → tWd T k ≠ 21 → tWd T k ≠ 33 → fnO g kd lb pt m T ty va vis s fs iv ar la pA pB iw aw (mX4_finish (nI (tPl T k)) x c iv2 ar2 la pA pB) (mX12_finish (nI fs.length) (nI k) iw aw2)) : tuO g kd lb pt m T ty va vis N n2 lim t s iv ar la pA pB iw aw (mX4_perform_L22 (N + 1) (nI lim) (nI t) iv ar la pA pB) (rGo n2 F lim (fs.length + 1) (nI v) iw aw) := by
  obtain ⟨F2, ar2, aw2, hF2, ⟨⟨k1, k2, k3, k4, k5, k6⟩, vr, cr, vt, fo, hdo, he, hex, hvals, ⟨x1, x2, x3⟩, ⟨y1, y2, y3⟩, f1, f2⟩, hC, hR, hw⟩ := g_pt (la := la) (pB := pB) (N := N) (n2 := n2) (lim := lim) hX h hd ht hF
  have hkm := (hX.2.2.2.2 k k1).1
  obtain ⟨-, -, ⟨o1, o2, o3⟩, ⟨s1, s2, s3, s4⟩, z1, z2⟩ := h
  rw [List.length_cons] at o1 o2 o3 s3
  rw [if_neg (by omega)] at hw
  have hP : fPt g kd lb pt m T ty va τ vis nv nc s m1 fs k c (va_up iv 407 (nI fs.length)) ar2 iw aw2 iv ar iw aw := ⟨⟨⟨vr, cr⟩, ⟨vt, fo⟩, ⟨rfl, rfl, by omega⟩, ⟨s1, s2, by omega, s4⟩, z1, hdo⟩, ⟨k1, he, hex⟩, ⟨o2, hd.2.1, y2, hd.1.2.2, k6⟩, by omega, fRc_t f1 ⟨fun x a b c => by rw [va_up_ne _ _ (by omega)], fun _ _ => rfl⟩, f2⟩
  have hV : gV kd lb pt T ty τ nv fs.length k (va_up iv 407 (nI fs.length)) ar2 aw2 := by
    intro j hj
    obtain ⟨w, w1, w2, w3, w4, w5⟩ := hvals j (by omega)
    refine ⟨w, w1, w2, w3, w4, fun q => ?_⟩
    rw [w5 (by omega)]
    exact hd.1.2.1
  have hfn := hW _ ar2 aw2 (ar2 406 (fs.length * 8)) hP hV hd.1.1 rfl k3 k4 k5
  have h9 := hOK9 (hX.1.2.2 k hkm).1.1
  have hnd9 : tNd T k ≤ 9 := by
    unfold tNd
    by_cases e : tWd T k = 28 ∨ tWd T k = 32
    · rw [if_pos e]; omega
    · rw [if_neg e]; exact h9
  have hB : mX4_resume_J67 (nI fs.length) (nI (tPl T k)) iv ar2 la pA pB = obc (mX4_finish (nI (tPl T k)) (ar2 406 (fs.length * 8)) c (va_up iv 407 (nI fs.length)) ar2 la pA pB) (fun _ iv116 ar116 la116 pA116 pB116 => some (0, iv116, ar116, la116, pA116, pB116)) := by
    unfold mX4_resume_J67
    rw [if_neg (nI_in (c := fs.length) (N := 300) (by omega) (by decide)), c_needed hX hkm, obce, ncl (show fs.length < 2147483648 by omega), x3, if_pos (nI_le (show tNd T k ≤ n + 1 by omega) (by omega)), c_gott0 (show fs.length < 300 by omega), obce, if_neg (nI_inn (a := fs.length) (N := 300) (by omega) (by omega)), x2]
  have hB2 : mX4_resume_J67 (nI fs.length) (nI (tPl T k)) iv ar2 la pA pB = mX4_finish (nI (tPl T k)) (ar2 406 (fs.length * 8)) c (va_up iv 407 (nI fs.length)) ar2 la pA pB := by
    rw [hB]
    rcases hfn with ⟨_, _, _, _, _, _, _, _, q, _⟩ | ⟨_, _, _, _, _, _, _, _, _, _, _, q, _⟩ | ⟨_, _, _, _, _, _, q, _⟩
    · rw [q, obce]
    · rw [q, obce]
    · rw [q, obce]
  rw [hC, hR, hB2]
  exact fnO_tu hX hfn hw hn2 (by omega) (by omega)
end
