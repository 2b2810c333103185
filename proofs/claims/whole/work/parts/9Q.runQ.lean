section
variable {g0 : Nat} {kd0 lb0 : Nat → Nat} {g : Nat} {kd lb : Nat → Nat} {pt : Nat → Nat → Nat} {m : Nat} {T : TT} {ty va τ : Nat → Nat} {vis : List Nat} {nv nc s : Nat} {pn : Int32} {fs : List (Nat × Int32 × Nat)} {k : Nat} {c : Int32} {iv : mI} {ar : mA} {la : mL} {pA pB : mA} {iw : mI} {aw : mA} {iv0 : mI} {ar0 : mA} {iw0 : mI} {aw0 : mA}
/-- a turn that begins a term -/
theorem d_all (hX : rCx g0 kd0 lb0 g kd lb pt m T ty va vis pA) (h : mSt g kd lb pt m T ty va τ vis nv nc s pn fs iv ar iw aw) (hd : dSt kd lb pt T ty va τ vis nv nc pn fs k c iv ar iw) {n n2 lim t : Nat} (hn2 : 0 < n2) (ht : t + fs.length ≤ 2 * s) (hs : s < lim) (hlim : lim ≤ 20000) (hL : fs.length < 300) : tuO g kd lb pt m T ty va vis n n2 lim t (s + 1) iv ar la pA pB iw aw (mX4_perform_L22 (n + 1) (nI lim) (nI t) iv ar la pA pB) (mX12_run_L63 (n2 + 1) (nI lim) (-1) iw aw) := by
  have hk := (hX.2.2.2.2 k hd.2.2.1.1).1
  have hO := (hX.1.2.2 k hk).1.1
  have hw := hO.1
  obtain ⟨F, iwB, awB, hF, hP, ⟨b66, b68, b69⟩, hC, hR, hwt⟩ := d_pt (la := la) (pB := pB) (n := n) (n2 := n2) hX h hd ht hs hlim hL
  have fin : rNd T k = 0 → fnO g kd lb pt m T ty va vis (s + 1) fs iv ar la pA pB iw aw (mX4_begin (nI (tPl T k)) c (va_up iv 408 (nI (s + 1))) ar la pA pB) (mX12_finish (nI fs.length) (nI k) iwB awB) → tuO g kd lb pt m T ty va vis n n2 lim t (s + 1) iv ar la pA pB iw aw (mX4_perform_L22 (n + 1) (nI lim) (nI t) iv ar la pA pB) (mX12_run_L63 (n2 + 1) (nI lim) (-1) iw aw) := by
    intro h0 hf
    rw [h0, if_neg (Nat.lt_irrefl 0)] at hwt
    rw [hC, hR]
    exact fnO_tu hX hf hwt hn2 (by omega) (by omega)
  by_cases e21 : tWd T k = 21
  · have h0 : rNd T k = 0 := by unfold rNd; rw [if_neg (by omega), if_pos (Or.inl e21)]
    rcases hd.2.2.2 with q | ⟨v, q1, q2, q3, q4⟩
    · subst q
      exact fin h0 (d21 hX hP b69 e21)
    · subst q1
      exact fin h0 (d21b hX hP b69 q2 q4 e21)
  have hpn : pn = m1 := by
    rcases hd.2.2.2 with q | ⟨v, q1, q2, q3, q4⟩
    · exact q
    · exact absurd q3 e21
  subst hpn
  by_cases e20 : tWd T k = 20
  · exact d20 hX h hd e20 ht hs hlim hL
  by_cases e33 : tWd T k = 33
  · exact fin (by unfold rNd; rw [if_neg (by omega), if_pos (Or.inr e33)]) (d33 hX hP e33)
  have hnk0 : tNk T k = 0 → rNd T k = 0 ∨ tWd T k = 28 ∨ tWd T k = 32 := by
    intro q
    by_cases e28 : tWd T k = 28 ∨ tWd T k = 32
    · exact Or.inr e28
    · refine Or.inl ?_
      unfold rNd
      rw [if_neg e28, if_neg (by omega), q]
  by_cases e23 : tWd T k = 23
  · have h0 : rNd T k = 0 := by
      rcases hnk0 (hO.2.2.2.2.1 (Or.inl e23)) with q | q
      · exact q
      · omega
    exact fin h0 (d23 hX hP e23)
  by_cases e26 : tWd T k = 26
  · have h0 : rNd T k = 0 := by
      rcases hnk0 (hO.2.2.2.2.1 (Or.inr (Or.inl e26))) with q | q
      · exact q
      · omega
    exact fin h0 (d26 hX hP e26)
  by_cases e27 : tWd T k = 27
  · have h0 : rNd T k = 0 := by
      rcases hnk0 (hO.2.2.2.2.1 (Or.inr (Or.inr e27))) with q | q
      · exact q
      · omega
    exact fin h0 (d27 hX hP e27)
  by_cases e29 : tWd T k = 29 ∧ tNk T k = 0
  · have h0 : rNd T k = 0 := by
      rcases hnk0 e29.2 with q | q
      · exact q
      · omega
    exact fin h0 (d29 hX hP e29.1 e29.2)
  refine dOpen hX h hd ?_ ht hs hlim hL
  clear fin hwt hC hR hP hX hO hnk0
  omega
/-- a turn with a value that was got -/
theorem g_all {n v N n2 F lim t : Nat} (hX : rCx g0 kd0 lb0 g kd lb pt m T ty va vis pA) (h : mSt g kd lb pt m T ty va τ vis nv nc s m1 ((k, c, n) :: fs) iv ar iw aw) (hd : gSt kd lb pt T ty τ nv ((k, c, n) :: fs) v iv iw) (ht : t + fs.length + 2 ≤ 2 * s) (hF : 4000 + (fs.length + 1) ≤ F) (hn2 : 0 < n2) : tuO g kd lb pt m T ty va vis N n2 lim t s iv ar la pA pB iw aw (mX4_perform_L22 (N + 1) (nI lim) (nI t) iv ar la pA pB) (rGo n2 F lim (fs.length + 1) (nI v) iw aw) := by
  obtain ⟨⟨-, -, ⟨k1, k2, k3, k4, k5⟩, -⟩, -⟩ := h.2.1.2
  have hk := (hX.2.2.2.2 k k1).1
  have hO := (hX.1.2.2 k hk).1.1
  have hw := hO.1
  by_cases e : n + 1 < tNd T k
  · exact gMore hX h hd e ht hF
  · refine gFin hX h hd (by omega) ht hF hn2 (fun iv2 ar2 aw2 x hP hV h409 hx e20 e21 e33 => ?_)
    have hno : tWd T k ≠ 23 ∧ tWd T k ≠ 26 ∧ tWd T k ≠ 27 := by
      have hz : ¬ (tWd T k = 23 ∨ tWd T k = 26 ∨ tWd T k = 27) := by
        intro q
        have h0 := hO.2.2.2.2.1 q
        unfold tNd at k2
        rw [if_neg (by omega), h0] at k2
        omega
      exact ⟨fun q => hz (Or.inl q), fun q => hz (Or.inr (Or.inl q)), fun q => hz (Or.inr (Or.inr q))⟩
    have hc : tWd T k = 22 ∨ tWd T k = 24 ∨ tWd T k = 25 ∨ tWd T k = 28 ∨ tWd T k = 29 ∨ tWd T k = 30 ∨ tWd T k = 31 ∨ tWd T k = 32 := by
      clear hO hX hP hV h hd
      omega
    rcases hc with q | q | q | q | q | q | q | q
    · exact g22 hX hP hV hx q
    · exact g24 hX hP hV hx q
    · exact g25 hX hP hV hx q
    · exact g28 hX hP hV hx q
    · exact g29 hX hP hV q
    · exact g30 hX hP hV hx q
    · exact g31 hX hP hV hx q
    · exact g32 hX hP hV hx q
/-- what a run comes to -/
def rOut (iv : mI) (ar : mA) (la : mL) (pA pB : mA) (iw : mI) (aw : mA) (C : Option (Int32 × mI × mA × mL × mA × mA)) (R : Option (Int32 × mI × mA)) : Prop := ∃ (r : Int32) (nv : Nat) (iv2 : mI) (ar2 : mA) (iw2 : mI) (aw2 : mA), C = some (r, iv2, ar2, la, pA, pB) ∧ R = some (r, iw2, aw2) ∧ vR nv iv2 ar2 iw2 aw2 ∧ iv2 408 = iw2 57 ∧ fRc iv ar iv2 ar2 ∧ fRr iw aw iw2 aw2
theorem rOut_t {iv2 : mI} {ar2 : mA} {iw2 : mI} {aw2 : mA} {C : Option (Int32 × mI × mA × mL × mA × mA)} {R : Option (Int32 × mI × mA)} (f1 : fRc iv ar iv2 ar2) (f2 : fRr iw aw iw2 aw2) (h : rOut iv2 ar2 la pA pB iw2 aw2 C R) : rOut iv ar la pA pB iw aw C R := by
  obtain ⟨r, nv, iv3, ar3, iw3, aw3, e1, e2, e3, e4, e5, e6⟩ := h
  exact ⟨r, nv, iv3, ar3, iw3, aw3, e1, e2, e3, e4, fRc_t f1 e5, fRr_t f2 e6⟩
theorem fRc_r (iv : mI) (ar : mA) : fRc iv ar iv ar := ⟨fun _ _ _ _ => rfl, fun _ _ => rfl⟩
theorem fRr_r (iw : mI) (aw : mA) : fRr iw aw iw aw := ⟨fun _ _ => rfl, fun _ _ => rfl⟩
theorem run_loop (hX : rCx g0 kd0 lb0 g kd lb pt m T ty va vis pA) {lim : Nat} (hlim : lim ≤ 20000) : ∀ d : Nat,
    (∀ (t s n n2 : Nat) (τ : Nat → Nat) (nv nc : Nat) (pn : Int32) (fs : List (Nat × Int32 × Nat)) (k : Nat) (c : Int32) (iv : mI) (ar : mA) (iw : mI) (aw : mA), 40002 - t = d → d < n → d < n2 → mSt g kd lb pt m T ty va τ vis nv nc s pn fs iv ar iw aw → dSt kd lb pt T ty va τ vis nv nc pn fs k c iv ar iw → t + fs.length ≤ 2 * s → s ≤ lim → rOut iv ar la pA pB iw aw (mX4_perform_L22 n (nI lim) (nI t) iv ar la pA pB) (mX12_run_L63 n2 (nI lim) (-1) iw aw)) ∧
    (∀ (t s n n2 : Nat) (τ : Nat → Nat) (nv nc : Nat) (fs : List (Nat × Int32 × Nat)) (v F : Nat) (iv : mI) (ar : mA) (iw : mI) (aw : mA), 40002 - t = d → d < n → d < n2 → mSt g kd lb pt m T ty va τ vis nv nc s m1 fs iv ar iw aw → gSt kd lb pt T ty τ nv fs v iv iw → t + fs.length + 1 ≤ 2 * s → s ≤ lim → 4000 + fs.length ≤ F → rOut iv ar la pA pB iw aw (mX4_perform_L22 n (nI lim) (nI t) iv ar la pA pB) (rGo n2 F lim fs.length (nI v) iw aw)) := by
  intro d
  induction d with
  | zero =>
    refine ⟨fun t s n n2 τ nv nc pn fs k c iv ar iw aw hd _ _ _ _ ht hs => ?_, fun t s n n2 τ nv nc fs v F iv ar iw aw hd _ _ _ _ ht hs _ => ?_⟩
    · omega
    · omega
  | succ d ih =>
    have step : ∀ (t s n n2 : Nat) (iv : mI) (ar : mA) (iw : mI) (aw : mA) (C : Option (Int32 × mI × mA × mL × mA × mA)) (R : Option (Int32 × mI × mA)), 40002 - t = d + 1 → d < n → d < n2 → s ≤ lim → tuO g kd lb pt m T ty va vis n n2 lim t s iv ar la pA pB iw aw C R → rOut iv ar la pA pB iw aw C R := by
      intro t s n n2 iv ar iw aw C R hd hn hn2 hs ho
      rcases ho with ⟨τ, nv, nc, pn, fs, k, c, iv2, ar2, iw2, aw2, e1, e2, e3, e4, e5, e6, e7⟩ | ⟨τ, nv, nc, fs, v, F, iv2, ar2, iw2, aw2, e1, e2, e3, e4, e5, e6, e7, e8⟩ | ⟨nv, iv2, ar2, iw2, aw2, e1, e2, e3, e4, e5, e6⟩
      · rw [e1, e2]
        exact rOut_t e6 e7 (ih.1 (t + 1) s n n2 τ nv nc pn fs k c iv2 ar2 iw2 aw2 (by omega) hn hn2 e3 e4 e5 hs)
      · rw [e1, e2]
        exact rOut_t e7 e8 (ih.2 (t + 1) s n n2 τ nv nc fs v F iv2 ar2 iw2 aw2 (by omega) hn hn2 e4 e5 e6 hs e3)
      · exact ⟨m16, nv, iv2, ar2, iw2, aw2, e1, e2, e3, e4, e5, e6⟩
    refine ⟨fun t s n n2 τ nv nc pn fs k c iv ar iw aw hd hn hn2 hm hds ht hs => ?_, fun t s n n2 τ nv nc fs v F iv ar iw aw hd hn hn2 hm hgs ht hs hF => ?_⟩
    · obtain ⟨n, rfl⟩ : ∃ x, n = x + 1 := ⟨n - 1, by omega⟩
      obtain ⟨n2, rfl⟩ : ∃ x, n2 = x + 1 := ⟨n2 - 1, by omega⟩
      have hk := (hX.2.2.2.2 k hds.2.2.1.1).1
      have hp := (hX.1.2.2 k hk).1.2.2
      have hne : ¬ iv 409 = -1 := by rw [hds.1.1, nm1ne (by omega)]; exact id
      have h57 : iv 408 = iw 57 := by rw [hm.2.2.2.1.1, hm.2.2.2.1.2.1]
      have hL3 := hm.2.2.1.2.2
      by_cases es : s = lim
      · refine ⟨-1, nv, iv, ar, iw, aw, ?_, ?_, hm.1.1, h57, fRc_r _ _, fRr_r _ _⟩
        · conv => lhs; rw [mX4_perform_L22]
          rw [if_neg (show ¬ (40002 : Int32) ≤ nI t from nI_ge (show t < 40002 by omega) (by decide)), if_neg hne]
          unfold mX4_perform_J48
          rw [if_neg hne, hm.2.2.2.1.1, if_neg (nI_nlt (show lim ≤ s by omega) (by omega))]
        · conv => lhs; rw [mX12_run_L63]
          rw [if_neg (show ¬ (0 : Int32) ≤ -1 by decide), if_pos hm.2.2.2.2.1, if_pos (by rw [hm.2.2.2.1.2.1, es])]
      · by_cases eL : fs.length = 300
        · refine ⟨-16, nv, iv, ar, iw, aw, ?_, ?_, hm.1.1, h57, fRc_r _ _, fRr_r _ _⟩
          · conv => lhs; rw [mX4_perform_L22]
            rw [if_neg (show ¬ (40002 : Int32) ≤ nI t from nI_ge (show t < 40002 by omega) (by decide)), if_neg hne]
            unfold mX4_perform_J48
            rw [if_neg hne, hm.2.2.2.1.1, if_pos (nI_lt (show s < lim by omega) (by omega)), hm.2.2.1.1, eL, if_neg (show ¬ nI 300 < 300 by decide)]
          · conv => lhs; rw [mX12_run_L63]
            rw [if_neg (show ¬ (0 : Int32) ≤ -1 by decide), if_pos hm.2.2.2.2.1, hm.2.2.2.1.2.1, if_neg (show ¬ nI s = nI lim from fun q => es ((nI_eq (by omega) (by omega)).mp q)), hm.2.2.1.2.1, eL, if_pos (show nI 300 = 300 from rfl)]
        · exact step t (s + 1) n n2 iv ar iw aw _ _ hd (by omega) (by omega) (by omega) (d_all hX hm hds (by omega) ht (by omega) hlim (by omega))
    · obtain ⟨n, rfl⟩ : ∃ x, n = x + 1 := ⟨n - 1, by omega⟩
      have h57 : iv 408 = iw 57 := by rw [hm.2.2.2.1.1, hm.2.2.2.1.2.1]
      have hv := hgs.2.2.1
      have hnv := hm.1.1.1.1
      cases fs with
      | nil =>
        obtain ⟨n2, rfl⟩ : ∃ x, n2 = x + 1 := ⟨n2 - 1, by omega⟩
        rw [List.length_nil] at ht
        refine ⟨nI v, nv, iv, ar, iw, aw, ?_, ?_, hm.1.1, h57, fRc_r _ _, fRr_r _ _⟩
        · conv => lhs; rw [mX4_perform_L22]
          rw [if_neg (show ¬ (40002 : Int32) ≤ nI t from nI_ge (show t < 40002 by omega) (by decide)), if_pos (show iv 409 = -1 from hgs.1.1), if_pos (show iv 407 = 0 from hm.2.2.1.1), hgs.1.2.1]
        · unfold rGo
          rw [List.length_nil, if_pos rfl]
          conv => lhs; rw [mX12_run_L63]
          unfold mX12_run_J136
          rw [if_pos (nI_pos' (show v < 2147483648 by omega)), if_pos hm.2.2.2.2.1]
      | cons f fs =>
        obtain ⟨k, c, j⟩ := f
        rw [List.length_cons] at ht hF ⊢
        exact step t s n n2 iv ar iw aw _ _ hd (by omega) (by omega) hs (g_all hX hm hgs (by omega) hF (by omega))
/-- run answers alike -/
theorem sp_run {a : Int32} (hP : rlP iv pA iw aw) (hV : rlV iv ar iw aw) : ∃ (r : Int32) (ivz : mI) (arz : mA) (iwz : mI) (awz : mA) (qz : Nat), mX11_run a iv ar la pA pB = some (r, ivz, arz, la, pA, pB, qz) ∧ mX12_run a iw aw = some (r, iwz, awz) ∧ qz < 2 ∧ rlV ivz arz iwz awz ∧ fRc iv ar ivz arz ∧ fRr iw aw iwz awz := by
  rcases hP with ⟨p1, p2⟩ | ⟨p1, p2, m, T, g0, kd0, lb0, g, kd, lb, pt, ty, va, vis, hA, hpl, hcl, hdo, hok⟩
  · refine ⟨-2, iv, ar, iw, aw, 0, ?_, ?_, by decide, hV, fRc_r _ _, fRr_r _ _⟩
    · unfold mX11_run
      rw [if_pos p1]
    · unfold mX12_run
      rw [if_pos p2]
  · have n1 : ¬ iv 1110 = 0 := by rw [p1]; decide
    have n2 : ¬ iw 30 = 0 := by rw [p2]; decide
    rcases pk_ix a (n := 20001) (by omega) with h1 | h1 | ⟨lim, hl, rfl⟩
    · refine ⟨-2, iv, ar, iw, aw, 0, ?_, ?_, by decide, hV, fRc_r _ _, fRr_r _ _⟩
      · unfold mX11_run
        rw [if_neg n1, if_pos h1]
      · unfold mX12_run mX12_in
        rw [if_neg n2, if_pos h1, obe, if_pos rfl]
    · have h0 : ¬ a < 0 := by
        intro h2
        rw [Int32.lt_iff_toInt_lt] at h2
        rw [Int32.le_iff_toInt_le, nI_toInt (by omega)] at h1
        have : (0 : Int32).toInt = 0 := by decide
        omega
      have h3 : (20000 : Int32) < a := by
        rw [Int32.lt_iff_toInt_lt]
        rw [Int32.le_iff_toInt_le, nI_toInt (by omega)] at h1
        have : (20000 : Int32).toInt = 20000 := by decide
        omega
      have h4 : ¬ a ≤ 20000 := by
        rw [Int32.le_iff_toInt_le]
        rw [Int32.lt_iff_toInt_lt] at h3
        omega
      refine ⟨-2, iv, ar, iw, aw, 0, ?_, ?_, by decide, hV, fRc_r _ _, fRr_r _ _⟩
      · unfold mX11_run
        rw [if_neg n1, if_neg h0, if_neg h4]
      · unfold mX12_run mX12_in
        rw [if_neg n2, if_neg h0, if_pos h3, obe, if_pos rfl]
    · have hX : rCx g0 kd0 lb0 g kd lb pt m T ty va vis pA := ⟨hA, hcl, hok⟩
      obtain ⟨F, hF, hFF⟩ : ∃ F, bigF = F + 1 ∧ 500000 < F := ⟨999999, rfl, by omega⟩
      have hsc : tSc T 0 = [] := List.eq_nil_of_length_eq_zero (Nat.le_zero.mp (hA.2.2 0 hA.1).1.2.1)
      have hl := (run_loop (la := la) (pB := pB) hX (show lim ≤ 20000 by omega) 40002).1 0 0 bigF bigF (fun _ => 0) 0 0 m1 [] 0 m1 (va_up (va_up (va_up (va_up (va_up (va_up (va_up iv 1005 0) 102 0) 407 0) 408 0) 411 (-1)) 409 0) 410 (-1)) ar (va_up (va_up (va_up (va_up (va_up (va_up (va_up (va_up iw 56 0) 57 0) 65 0) 71 0) 72 0) 73 0) 74 (-1)) 75 (-1)) aw (by omega) (by omega) (by omega) ⟨⟨⟨⟨by decide, rfl, rfl⟩, fun k hk => by omega⟩, ⟨rfl, rfl⟩, fun k hk => by omega⟩, ⟨fun v hv => by omega, trivial⟩, ⟨rfl, rfl, by decide⟩, ⟨rfl, rfl, by decide, by decide⟩, rfl, hdo⟩ ⟨⟨by rw [hpl]; rfl, rfl, rfl⟩, ⟨rfl, rfl, rfl⟩, ⟨hok.2.1, by rw [hsc]; trivial, trivial⟩, Or.inl rfl⟩ (by decide) (by omega)
      obtain ⟨r, nv, iv2, ar2, iw2, aw2, e1, e2, e3, e4, e5, e6⟩ := hl
      refine ⟨r, iv2, ar2, iw2, aw2, 1, ?_, ?_, by decide, ⟨nv, e3.1.1, e3.1.2.1, e3.1.2.2, e4, e3.2⟩, fRc_t ⟨fun x a b c => by rw [va_up_ne _ _ (by omega), va_up_ne _ _ (by omega), va_up_ne _ _ (by omega), va_up_ne _ _ (by omega), va_up_ne _ _ (by omega), va_up_ne _ _ (by omega), va_up_ne _ _ (by omega)], fun _ _ => rfl⟩ e5, fRr_t ⟨fun x hx => by rw [va_up_ne _ _ (by omega), va_up_ne _ _ (by omega), va_up_ne _ _ (by omega), va_up_ne _ _ (by omega), va_up_ne _ _ (by omega), va_up_ne _ _ (by omega), va_up_ne _ _ (by omega), va_up_ne _ _ (by omega)], fun _ _ => rfl⟩ e6⟩
      · unfold mX11_run mX4_perform mX4_forget mX10_empty mX1_empty mX4_want
        rw [if_neg n1, if_neg (nI_pos (show lim < 2147483648 by omega)), if_pos (show nI lim ≤ (20000 : Int32) from nI_le (show lim ≤ 20000 by omega) (by decide)), obce, obce, obce, obce, show (0 : Int32) = nI 0 from rfl]
        rw [show (0 : Int32) = nI 0 from rfl] at e1
        rw [e1, obce]
      · unfold mX12_run mX12_in
        rw [if_neg n2, if_neg (nI_pos (show lim < 2147483648 by omega)), if_neg (show ¬ (20000 : Int32) < nI lim from nI_nlt (show lim ≤ 20000 by omega) (by decide)), obe, if_neg (show ¬ (1 : Int32) = 0 by decide)]
        exact e2
end
