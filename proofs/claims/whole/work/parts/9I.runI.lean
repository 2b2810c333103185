section
variable {g0 : Nat} {kd0 lb0 : Nat → Nat} {g : Nat} {kd lb : Nat → Nat} {pt : Nat → Nat → Nat} {m : Nat} {T : TT} {ty va τ : Nat → Nat} {vis : List Nat} {nv nc s : Nat} {pn : Int32} {fs : List (Nat × Int32 × Nat)} {k : Nat} {c : Int32} {iv : mI} {ar : mA} {la : mL} {pA pB : mA} {iw : mI} {aw : mA} {iv0 : mI} {ar0 : mA} {iw0 : mI} {aw0 : mA}
/-- a begun term that wants no more is to be finished, in both -/
def fPt (g : Nat) (kd lb : Nat → Nat) (pt : Nat → Nat → Nat) (m : Nat) (T : TT) (ty va τ : Nat → Nat) (vis : List Nat) (nv nc s : Nat) (pn : Int32) (fs : List (Nat × Int32 × Nat)) (k : Nat) (c : Int32) (iv : mI) (ar : mA) (iw : mI) (aw : mA) (iv0 : mI) (ar0 : mA) (iw0 : mI) (aw0 : mA) : Prop := mSt g kd lb pt m T ty va τ vis nv nc s pn fs iv ar (va_up iw 71 (nI fs.length)) aw ∧ (k ∈ vis ∧ eOK kd lb pt va τ nv nc ar (tSc T k) c ∧ exB kd lb pt T ty (ty k) fs) ∧ (iw 71 = nI (fs.length + 1) ∧ iw 73 = m1 ∧ aw 67 fs.length = c ∧ iv 411 = pn ∧ fs.length < 300) ∧ nc + fs.length < s ∧ fRc iv0 ar0 iv ar ∧ fRr iw0 aw0 iw aw
/-- what finishing it comes to: a value, a term that is next, or no room -/
def fnO (g : Nat) (kd lb : Nat → Nat) (pt : Nat → Nat → Nat) (m : Nat) (T : TT) (ty va : Nat → Nat) (vis : List Nat) (s : Nat) (fs : List (Nat × Int32 × Nat)) (iv0 : mI) (ar0 : mA) (la : mL) (pA pB : mA) (iw0 : mI) (aw0 : mA) (B : Option (Int32 × mI × mA × mL × mA × mA)) (R : Option (Int32 × mI × mA)) : Prop :=
  (∃ (τ : Nat → Nat) (nv nc : Nat) (v : Nat) (iv2 : mI) (ar2 : mA) (iw2 : mI) (aw2 : mA), B = some (0, iv2, ar2, la, pA, pB) ∧ R = some (nI v, iw2, aw2) ∧ mSt g kd lb pt m T ty va τ vis nv nc s m1 fs iv2 ar2 iw2 aw2 ∧ gSt kd lb pt T ty τ nv fs v iv2 iw2 ∧ fRc iv0 ar0 iv2 ar2 ∧ fRr iw0 aw0 iw2 aw2) ∨
  (∃ (τ : Nat → Nat) (nv nc : Nat) (pn : Int32) (k : Nat) (c r : Int32) (iv2 : mI) (ar2 : mA) (iw2 : mI) (aw2 : mA), B = some (0, iv2, ar2, la, pA, pB) ∧ R = some (r, iw2, aw2) ∧ mSt g kd lb pt m T ty va τ vis nv nc s pn fs iv2 ar2 iw2 aw2 ∧ dSt kd lb pt T ty va τ vis nv nc pn fs k c iv2 ar2 iw2 ∧ fRc iv0 ar0 iv2 ar2 ∧ fRr iw0 aw0 iw2 aw2) ∨
  (∃ (nv : Nat) (r : Int32) (iv2 : mI) (ar2 : mA) (iw2 : mI) (aw2 : mA), B = some (0, iv2, ar2, la, pA, pB) ∧ R = some (r, iw2, aw2) ∧ iv2 409 = m1 ∧ iv2 412 = m1 ∧ iw2 73 = m1 ∧ iw2 72 = m16 ∧ vR nv iv2 ar2 iw2 aw2 ∧ iv2 408 = iw2 57 ∧ fRc iv0 ar0 iv2 ar2 ∧ fRr iw0 aw0 iw2 aw2)
theorem fnO_tu {n n2 F lim t : Nat} {B : Option (Int32 × mI × mA × mL × mA × mA)} (hX : rCx g0 kd0 lb0 g kd lb pt m T ty va vis pA) (h : fnO g kd lb pt m T ty va vis s fs iv0 ar0 la pA pB iw0 aw0 B (mX12_finish (nI fs.length) (nI k) iw aw)) (hw : mX12_wantsMore (nI fs.length) (nI k) iw aw = some (0, iw, aw)) (hn2 : 0 < n2) (ht : t + 1 + fs.length + 1 ≤ 2 * s) (hF : 4000 + fs.length ≤ F) : tuO g kd lb pt m T ty va vis n n2 lim t s iv0 ar0 la pA pB iw0 aw0 (obc B (fun _ iv105 ar105 la105 pA105 pB105 => mX4_perform_J108 (mX4_perform_L22 n) (nI lim) (nI t) iv105 ar105 la105 pA105 pB105)) (ob (mX12_goOn_J61 (mX12_goOn_L2 F) (nI fs.length) (nI k) iw aw) (fun r129 iv129 ar129 => mX12_run_L63 n2 (nI lim) r129 iv129 ar129)) := by
  rcases h with ⟨τ, nv, nc, v, iv2, ar2, iw2, aw2, e1, e2, hm, hg, f1, f2⟩ | ⟨τ, nv, nc, pn, k2, c2, r, iv2, ar2, iw2, aw2, e1, e2, hm, hd, f1, f2⟩ | ⟨nv, r, iv2, ar2, iw2, aw2, e1, e2, h1, h2, h3, h4, h5, h6, f1, f2⟩
  · have hv := hg.2.2.1
    have hnv := hm.1.1.1.1
    rw [c_gave e1 hg.1.1 hg.1.2.1 (by omega), r_fin hw e2 hg.2.1 hm.2.2.2.2.1 hm.2.2.1.2.1 hm.2.2.1.2.2]
    exact Or.inr (Or.inl ⟨τ, nv, nc, fs, v, F, iv2, ar2, iw2, aw2, rfl, rfl, hF, hm, hg, ht, f1, f2⟩)
  · have hk := (hX.2.2.2.2 k2 hd.2.2.1.1).1
    have hp := (hX.1.2.2 k2 hk).1.2.2
    have hk2 : k2 < 200 := Nat.lt_of_lt_of_le hk hX.1.2.1
    rw [c_wanted e1 hd.1.1 (by omega), r_nxt hw e2 (by rw [hd.2.1.1]; exact nI_pos' (by omega)) (by omega)]
    exact Or.inl ⟨τ, nv, nc, pn, fs, k2, c2, iv2, ar2, iw2, aw2, rfl, rfl, hm, hd, by omega, f1, f2⟩
  · rw [c_room e1 h1 h2, r_rom hw e2 h3 h4 (by omega) hn2]
    exact Or.inr (Or.inr ⟨nv, iv2, ar2, iw2, aw2, rfl, rfl, h5, h6, f1, f2⟩)
/-- a value more -/
theorem mSt_new (hX : rCx g0 kd0 lb0 g kd lb pt m T ty va vis pA) (h : mSt g kd lb pt m T ty va τ vis nv nc s m1 fs iv ar iw aw) {t : Nat} {pn2 : Int32} {iv2 : mI} {ar2 : mA} {iw2 : mI} {aw2 : mA} (hn : nv < 2000) (ht : t < g) (hK : 2 ≤ kd t)
  (i1 : iv2 1005 = nI (nv + 1) ∧ iv2 102 = iv 102 ∧ iv2 407 = iv 407 ∧ iv2 408 = iv 408) (i2 : iw2 56 = nI (nv + 1) ∧ iw2 65 = iw 65 ∧ iw2 71 = iw 71 ∧ iw2 57 = iw 57 ∧ iw2 72 = iw 72)
  (a1 : ∀ r, r < 1000 → ar2 r = ar r) (a2 : ∀ v, v < nv → ar2 1000 v = ar 1000 v ∧ ar2 1001 v = ar 1001 v ∧ ar2 1003 v = ar 1003 v ∧ ar2 1004 v = ar 1004 v ∧ ∀ l, l < 8 → ar2 1002 (v * 8 + l) = ar 1002 (v * 8 + l))
  (b1 : ∀ r, r < 58 ∨ 62 < r → aw2 r = aw r) (b2 : ∀ v, v < nv → aw2 58 v = aw 58 v ∧ aw2 59 v = aw 59 v ∧ aw2 61 v = aw 61 v ∧ aw2 62 v = aw 62 v ∧ ∀ l, l < 8 → aw2 60 (8 * v + l) = aw 60 (8 * v + l))
  (n1 : ar2 1000 nv = nI (kd t)) (n2 : aw2 58 nv = nI (kd t)) (n3 : ar2 1001 nv = aw2 59 nv) (n4 : ∀ l, l < 8 → aw2 60 (8 * nv + l) = if (ar2 1000 nv = nI 5 ∧ ((ar2 1001 nv >>> (nI l &&& nI 31)) &&& nI 1) = nI 1) ∨ (ar2 1000 nv = nI 6 ∧ ar2 1001 nv = nI l) then ar2 1002 (nv * 8 + l) else m1)
  (n5 : kd t = 4 → nI nv = pn2 ∨ ∃ k, k ∈ vis ∧ tWd T k = 21 ∧ t = ty k ∧ ar2 1003 nv = nI (tPl T k) ∧ aw2 61 nv = nI (tIn T k 0) ∧ ar2 1004 nv = aw2 62 nv ∧ eOK kd lb pt va τ nv nc ar (tSc T k) (ar2 1004 nv))
  (n6 : kd t = 5 → ∃ L, L < 256 ∧ ar2 1001 nv = nI L ∧ ∀ l, l < 8 → (lb t).testBit l = true → L.testBit l = true ∧ ∃ w, w < nv ∧ ar2 1002 (nv * 8 + l) = nI w ∧ blw kd lb pt (τ w) (pt t l))
  (n7 : kd t = 6 → ∃ l w, l < 8 ∧ ar2 1001 nv = nI l ∧ (lb t).testBit l = true ∧ w < nv ∧ ar2 1002 (nv * 8 + l) = nI w ∧ blw kd lb pt (τ w) (pt t l)) :
  mSt g kd lb pt m T ty va (fun w => if w = nv then t else τ w) vis (nv + 1) nc s pn2 fs iv2 ar2 iw2 aw2 := by
  obtain ⟨⟨⟨⟨v1, v2, v3⟩, v4⟩, ⟨c1, c2⟩, c3⟩, ⟨b3, b4⟩, ⟨o1, o2, o3⟩, ⟨s1, s2, s3, s4⟩, z1, z2⟩ := h
  have hτ : ∀ w, w < nv → (fun w => if w = nv then t else τ w) w = τ w := fun w hw => if_neg (by omega)
  have hτn : (fun w => if w = nv then t else τ w) nv = t := if_pos rfl
  have hcell : ∀ i, i < nc → ar2 100 i = ar 100 i ∧ ar2 101 i = ar 101 i := fun i _ => by rw [a1 100 (by decide), a1 101 (by decide)]; exact ⟨rfl, rfl⟩
  refine ⟨⟨⟨⟨by omega, i1.1, i2.1⟩, fun w hw => ?_⟩, ⟨by rw [i1.2.1]; exact c1, by rw [i2.2.1]; exact c2⟩, fun i hi => ?_⟩, ⟨fun w hw => ?_, fO_up (ar := ar) (aw := aw) (τ := τ) (Nat.le_succ _) (Nat.le_refl _) hcell hτ fs (fun i _ => ?_) (fun i _ => ?_) (fun i _ => ?_) (fO_n9 hX.1 hX.2.2 fs b4) b4⟩, ⟨by rw [i1.2.2.1]; exact o1, by rw [i2.2.2.1]; exact o2, o3⟩, ⟨by rw [i1.2.2.2]; exact s1, by rw [i2.2.2.2.1]; exact s2, s3, s4⟩, by rw [i2.2.2.2.2]; exact z1, ?_⟩
  · by_cases e : w = nv
    · subst e
      exact ⟨by rw [n1, n2], n3, n4⟩
    · obtain ⟨x1, x2, -, -, x3⟩ := a2 w (by omega)
      obtain ⟨y1, y2, -, -, y3⟩ := b2 w (by omega)
      obtain ⟨u1, u2, u3⟩ := v4 w (by omega)
      refine ⟨by rw [x1, y1]; exact u1, by rw [x2, y2]; exact u2, fun l hl => ?_⟩
      rw [x1, x2, x3 l hl, y3 l hl]
      exact u3 l hl
  · rw [a1 100 (by decide), a1 101 (by decide), b1 63 (by omega), b1 64 (by omega)]
    exact c3 i hi
  · by_cases e : w = nv
    · subst e
      rw [hτn]
      refine ⟨⟨ht, n1, hK⟩, fun e4 => ?_, fun e5 => ?_, fun e6 => ?_⟩
      · rcases n5 e4 with q | ⟨k2, q1, q2, q3, q4, q5, q6, q7⟩
        · exact Or.inl q
        · exact Or.inr ⟨k2, q1, q2, q3, q4, q5, q6, eOK_up (Nat.le_succ _) (Nat.le_refl _) hcell hτ _ _ q7⟩
      · obtain ⟨L, l1, l2, l3⟩ := n6 e5
        refine ⟨L, l1, l2, fun l hl hb => ?_⟩
        obtain ⟨r1, w2, r2, r3, r4⟩ := l3 l hl hb
        exact ⟨r1, w2, by omega, r3, by rw [hτ w2 r2]; exact r4⟩
      · obtain ⟨l, w2, r1, r2, r3, r4, r5, r6⟩ := n7 e6
        exact ⟨l, w2, r1, r2, r3, by omega, r5, by rw [hτ w2 r4]; exact r6⟩
    · refine vT_up (ar := ar) (aw := aw) (τ := τ) (pn := m1) (nv := nv) (nc := nc) b3 (Nat.le_succ _) (Nat.le_refl _) hcell hτ (fun v hv => ?_) (show w < nv by omega) (fun q => ?_)
      · obtain ⟨x1, x2, x3, x4, x5⟩ := a2 v hv
        obtain ⟨y1, y2, y3, y4, y5⟩ := b2 v hv
        exact ⟨x1, x2, fun _ => ⟨x3, x4, y3, y4⟩, x5⟩
      · rw [m1ne (by omega)] at q
        exact q.elim
  · rw [a1 403 (by decide), a1 404 (by decide), a1 405 (by decide), b1 66 (by omega), b1 67 (by omega), b1 68 (by omega)]
    exact ⟨rfl, rfl, rfl, rfl, rfl, rfl⟩
  · rw [a1 406 (by decide)]
  · rw [b1 70 (by omega)]
  · intro k hk
    rw [b1 40 (by omega), b1 41 (by omega), b1 42 (by omega), b1 43 (by omega), b1 44 (by omega), b1 45 (by omega)]
    exact z2 k hk
/-- a number or a truth is made -/
theorem new_val (hX : rCx g0 kd0 lb0 g kd lb pt m T ty va vis pA) (hP : fPt g kd lb pt m T ty va τ vis nv nc s m1 fs k c iv ar iw aw iv0 ar0 iw0 aw0) {K : Nat} {x : Int32} (hkd : kd (ty k) = K) (hK : K = 2 ∨ K = 3 ∨ (K = 5 ∧ x = nI 0 ∧ ∀ l, l < 8 → ¬ (lb (ty k)).testBit l = true)) {B : Option (Int32 × mI × mA × mL × mA × mA)} {R : Option (Int32 × mI × mA)} (hB : B = obc (mX10_add (nI K) x iv ar la pA pB) (fun r iv ar la pA pB => obc (mX4_give r iv ar la pA pB) (fun _ iv ar la pA pB => some (0, iv, ar, la, pA, pB)))) (hR : R = mX12_newValue (nI K) x (va_up iw 71 (nI fs.length)) aw) : fnO g kd lb pt m T ty va vis s fs iv0 ar0 la pA pB iw0 aw0 B R := by
  obtain ⟨hm, ⟨k1, k2, k3⟩, ⟨p1, p2, p3, p4, p5⟩, hnc, f1, f2⟩ := hP
  have hv := hm.1.1.1
  have hty := (hX.2.2.2.2 k k1).2.1
  rcases newV_both (K := K) (x := x) (ar := ar) (la := la) (pA := pA) (pB := pB) (aw := aw) hv.1 hv.2.1 hv.2.2 with ⟨hn, aw2, e1, e2, a1, a2, a3, a4, a5⟩ | ⟨hn, e1, e2⟩
  · rw [e1, obce] at hB
    unfold mX4_give at hB
    rw [obce] at hB
    rw [e2] at hR
    have hno : ∀ l, l < 8 → ¬ ((nI K = nI 5 ∧ ((x >>> (nI l &&& nI 31)) &&& nI 1) = nI 1) ∨ (nI K = nI 6 ∧ x = nI l)) := by
      intro l hl
      rintro (⟨q1, q2⟩ | ⟨q1, q2⟩)
      · have q3 := (nI_eq (by omega) (by omega)).mp q1
        rcases hK with q | q | ⟨_, q, _⟩
        · omega
        · omega
        · rw [q, bitn (by decide) hl] at q2
          simp at q2
      · have q3 := (nI_eq (by omega) (by omega)).mp q1
        omega
    refine Or.inl ⟨fun w => if w = nv then ty k else τ w, nv + 1, nc, nv, _, _, _, _, hB, hR, mSt_new hX hm hn hty (by omega) ⟨rfl, rfl, rfl, rfl⟩ ⟨rfl, rfl, rfl, rfl, rfl⟩ (fun r hr => ?_) (fun v hv => ?_) (fun r hr => a1 r (by omega) (by omega) (by omega)) (fun v hv => ?_) ?_ ?_ ?_ (fun l hl => ?_) (fun q => by omega) (fun q => ?_) (fun q => by omega), ⟨⟨rfl, rfl, p4⟩, p2, Nat.lt_succ_self _, ?_⟩, ?_, ?_⟩
    · rw [au_ne _ (by omega), au_ne _ (by omega), au_ne _ (by omega), au_ne _ (by omega)]
    · simp [aur, show ¬ v = nv by omega]
    · rw [a2 v, a3 v, a1 61 (by decide) (by decide) (by decide), a1 62 (by decide) (by decide) (by decide), if_neg (by omega), if_neg (by omega)]
      exact ⟨rfl, rfl, rfl, rfl, fun l hl => a4 _ (by omega)⟩
    · rw [hkd]
      simp [aur]
    · rw [hkd, a2, if_pos rfl]
    · rw [a3, if_pos rfl]
      simp [aur]
    · rw [a5 l hl, if_neg]
      rw [show (au (au (au (au ar 1000 nv (nI K)) 1001 nv x) 1003 nv (-1)) 1004 nv (-1)) 1000 nv = nI K by simp [aur], show (au (au (au (au ar 1000 nv (nI K)) 1001 nv x) 1003 nv (-1)) 1004 nv (-1)) 1001 nv = x by simp [aur]]
      exact hno l hl
    · rcases hK with q2 | q2 | ⟨q2, q3, q4⟩
      · omega
      · omega
      · exact ⟨0, by decide, by simp [aur, q3], fun l hl hb => absurd hb (q4 l hl)⟩
    · show exB kd lb pt T ty (if nv = nv then ty k else τ nv) fs
      rw [if_pos rfl]
      exact k3
    · exact fRc_t f1 ⟨fun x a b c => by rw [va_up_ne _ _ (by omega), va_up_ne _ _ (by omega), va_up_ne _ _ (by omega)], fun x hx => by rw [au_ne _ (by omega), au_ne _ (by omega), au_ne _ (by omega), au_ne _ (by omega)]⟩
    · exact fRr_t f2 ⟨fun x hx => by rw [va_up_ne _ _ (by omega), va_up_ne _ _ (by omega)], fun x hx => a1 x (by omega) (by omega) (by omega)⟩
  · rw [e1, obce] at hB
    unfold mX4_give at hB
    rw [obce] at hB
    rw [e2] at hR
    refine Or.inr (Or.inr ⟨nv, _, _, _, _, _, hB, hR, rfl, rfl, p2, rfl, hm.1.1, ?_, ?_, ?_⟩)
    · show iv 408 = iw 57
      rw [hm.2.2.2.1.1]
      exact hm.2.2.2.1.2.1.symm
    · exact fRc_t f1 ⟨fun x a b c => by rw [va_up_ne _ _ (by omega), va_up_ne _ _ (by omega)], fun _ _ => rfl⟩
    · exact fRr_t f2 ⟨fun x hx => by rw [va_up_ne _ _ (by omega), va_up_ne _ _ (by omega)], fun _ _ => rfl⟩
end
