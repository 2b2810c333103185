section
variable {g0 : Nat} {kd0 lb0 : Nat → Nat} {g : Nat} {kd lb : Nat → Nat} {pt : Nat → Nat → Nat} {m : Nat} {T : TT} {ty va τ : Nat → Nat} {vis : List Nat} {nv nc s : Nat} {pn : Int32} {fs : List (Nat × Int32 × Nat)} {k : Nat} {c : Int32} {iv : mI} {ar : mA} {la : mL} {pA pB : mA} {iw : mI} {aw : mA}
theorem c_gave {n t v : Nat} {lim : Int32} {iv2 : mI} {ar2 : mA} {B : Option (Int32 × mI × mA × mL × mA × mA)} (hb : B = some (0, iv2, ar2, la, pA, pB)) (h9 : iv2 409 = m1) (h12 : iv2 412 = nI v) (hv : v < 2000) : obc B (fun _ iv105 ar105 la105 pA105 pB105 => mX4_perform_J108 (mX4_perform_L22 n) lim (nI t) iv105 ar105 la105 pA105 pB105) = mX4_perform_L22 n lim (nI (t + 1)) iv2 ar2 la pA pB := by
  unfold mX4_perform_J108
  rw [hb, obce, if_pos (show iv2 409 = -1 from h9), h12, if_neg (show ¬ nI v = -1 by rw [nm1ne (by omega)]; exact id), show nI t + 1 = nI (t + 1) from nadd _ 1]
theorem c_wanted {n t p : Nat} {lim : Int32} {iv2 : mI} {ar2 : mA} {B : Option (Int32 × mI × mA × mL × mA × mA)} (hb : B = some (0, iv2, ar2, la, pA, pB)) (h9 : iv2 409 = nI p) (hp : p < 2000) : obc B (fun _ iv105 ar105 la105 pA105 pB105 => mX4_perform_J108 (mX4_perform_L22 n) lim (nI t) iv105 ar105 la105 pA105 pB105) = mX4_perform_L22 n lim (nI (t + 1)) iv2 ar2 la pA pB := by
  unfold mX4_perform_J108
  rw [hb, obce, h9, if_neg (show ¬ nI p = -1 by rw [nm1ne (by omega)]; exact id), show nI t + 1 = nI (t + 1) from nadd _ 1]
theorem c_room {n t : Nat} {lim : Int32} {iv2 : mI} {ar2 : mA} {B : Option (Int32 × mI × mA × mL × mA × mA)} (hb : B = some (0, iv2, ar2, la, pA, pB)) (h9 : iv2 409 = m1) (h12 : iv2 412 = m1) : obc B (fun _ iv105 ar105 la105 pA105 pB105 => mX4_perform_J108 (mX4_perform_L22 n) lim (nI t) iv105 ar105 la105 pA105 pB105) = some (m16, iv2, ar2, la, pA, pB) := by
  unfold mX4_perform_J108
  rw [hb, obce, if_pos (show iv2 409 = -1 from h9), if_pos (show iv2 412 = -1 from h12)]
  rfl
/-- a term is begun: a step more -/
theorem mSt_beg (hA : tAll g0 kd0 lb0 m T) (hok : tOk m T g kd lb pt ty va vis) (h : mSt g kd lb pt m T ty va τ vis nv nc s pn fs iv ar iw aw) (hs : s < 20000) (x1 x2 x3 : Int32) : mSt g kd lb pt m T ty va τ vis nv nc (s + 1) pn fs (va_up iv 408 (nI (s + 1))) ar (va_up (va_up (va_up (va_up iw 57 (nI (s + 1))) 71 (nI (fs.length + 1))) 73 (-1)) 71 (nI fs.length)) (au (au (au (au aw 66 fs.length x1) 67 fs.length x2) 68 fs.length 0) 69 fs.length x3) := by
  obtain ⟨⟨a1, a2⟩, ⟨b1, b2⟩, ⟨c1, c2, c3⟩, ⟨d1, d2, d3, d4⟩, e1, e2⟩ := h
  refine ⟨⟨a1, a2⟩, ⟨b1, fO_up (ar := ar) (aw := aw) (τ := τ) (Nat.le_refl _) (Nat.le_refl _) (fun _ _ => ⟨rfl, rfl⟩) (fun _ _ => rfl) fs (fun i hi => ⟨rfl, rfl, rfl, ?_, ?_, ?_⟩) (fun _ _ => rfl) (fun _ _ => rfl) (fO_n9 hA hok fs b2) b2⟩, ⟨c1, rfl, c3⟩, ⟨rfl, rfl, by omega, by omega⟩, e1, e2⟩
  · rw [au_ne _ (by decide), au_ne _ (by decide), au_ne _ (by decide), au_ni _ (by omega)]
  · rw [au_ne _ (by decide), au_ne _ (by decide), au_ni _ (by omega), au_ne _ (by decide)]
  · rw [au_ne _ (by decide), au_ni _ (by omega), au_ne _ (by decide), au_ne _ (by decide)]
theorem d20 (hX : rCx g0 kd0 lb0 g kd lb pt m T ty va vis pA) (h : mSt g kd lb pt m T ty va τ vis nv nc s pn fs iv ar iw aw) (hd : dSt kd lb pt T ty va τ vis nv nc pn fs k c iv ar iw) (e : tWd T k = 20) {n n2 lim t : Nat} (ht : t + fs.length ≤ 2 * s) (hs : s < lim) (hlim : lim ≤ 20000) (hL : fs.length < 300) : tuO g kd lb pt m T ty va vis n n2 lim t (s + 1) iv ar la pA pB iw aw (mX4_perform_L22 (n + 1) (nI lim) (nI t) iv ar la pA pB) (mX12_run_L63 (n2 + 1) (nI lim) (-1) iw aw) := by
  obtain ⟨hA, hcl, hok⟩ := hX
  obtain ⟨⟨q1, q2, q3⟩, ⟨r1, r2, r3⟩, ⟨k1, k2, k3⟩, k4⟩ := hd
  have hpn : pn = m1 := by
    rcases k4 with q | ⟨v, _, _, q, _⟩
    · exact q
    · omega
  subst hpn
  have hk := (hok.2.2 k k1).1
  have hk2 : k < 200 := Nat.lt_of_lt_of_le hk hA.2.1
  have hp := (hA.2.2 k hk).1.2.2
  have hm := mSt_beg hA hok h (show s < 20000 by omega) (nI k) c m1
  obtain ⟨⟨vr, cr⟩, ⟨vt, fo⟩, ⟨o1, o2, o3⟩, ⟨s1, s2, s3, s4⟩, z1, z2⟩ := id hm
  obtain ⟨J, hh, j1, j2, -⟩ := (hcl.2 k hk).2.2.2 e
  obtain ⟨w1, w2⟩ := (hcl.2 k hk).1.2.1.1 (Or.inl e)
  have hsl := (hA.2.2 k hk).1.2.1
  have hJ : J < (tSc T k).length := (List.getElem?_eq_some_iff.mp j2).1
  obtain ⟨F, hF, hFF⟩ : ∃ F, bigF = F + 1 ∧ 5000 < F := ⟨999999, rfl, by omega⟩
  have hO := (hA.2.2 k hk).1.1
  have hnk : tNk T k = 0 := (hO.2.1 e).1
  obtain ⟨⟨t1, t2, t3, t4⟩, -⟩ := z2 k hk
  obtain ⟨w, v1, v2, v3, v4⟩ := var_both (la := la) (pA := pA) (pB := pB) (iv := va_up iv 408 (nI (s + 1))) (k := k) (J := J) hk2 (by omega) (by rw [t2]; exact j1) (show nc ≤ 20000 by omega) cr (tSc T k) c J hh bigF bigF j2 (by omega) (by omega) (Nat.le_refl J) k2
  rw [Nat.sub_self] at v3 v4
  obtain ⟨n', hn'⟩ : ∃ x, nv = x := ⟨nv, rfl⟩
  have hnv : nv ≤ 2000 := vr.1.1
  -- the class
  have hC := c_turnD (n := n) (t := t) (lim := lim) (ar := ar) (la := la) (pA := pA) (pB := pB) (T := T) (k := k) (show t < 40002 by omega) hs hlim hL hp h.2.2.1.1 h.2.2.2.1.1 q1 q2
  have hw20 : mX6_wordA (nI (tPl T k)) (va_up iv 408 (nI (s + 1))) ar la pA pB = some (nI 20, va_up iv 408 (nI (s + 1)), ar, la, pA, pB) := by rw [← e]; exact c_wordA hA hcl hk
  have hw1 : mX6_wordA (nI (tPl T k) + 1) (va_up iv 408 (nI (s + 1))) ar la pA pB = some (nI J, va_up iv 408 (nI (s + 1)), ar, la, pA, pB) := by
    have := c_word1A (iv := va_up iv 408 (nI (s + 1))) (ar := ar) (la := la) (pA := pA) (pB := pB) (p := tPl T k) (d := 1) w1
    rw [w2, j1] at this
    exact this
  have hB : mX4_begin (nI (tPl T k)) c (va_up iv 408 (nI (s + 1))) ar la pA pB = some (0, va_up (va_up (va_up iv 408 (nI (s + 1))) 409 (-1)) 412 (nI w), ar, la, pA, pB) := by
    rw [bgn20 hw20, hw1, obce]
    unfold mX1_valueAt mX4_give
    rw [show (0 : Int32) = nI 0 from rfl, v3, obce, obce]
  -- the reference
  obtain ⟨F2, hF2, hR⟩ := r_turnD (n := n2) (aw := aw) hs hlim hL h.2.2.1.2.1 h.2.2.2.1.2.1 h.2.2.2.2.1 r1 r2 r3
  have hwant := r_wants (iw := va_up (va_up (va_up iw 57 (nI (s + 1))) 71 (nI (fs.length + 1))) 73 (-1)) (aw := au (au (au (au aw 66 fs.length (nI k)) 67 fs.length c) 68 fs.length 0) 69 fs.length m1) (f := fs.length) (n := 0) hA z2 hk (by omega) (by rw [au_ne _ (by decide), au_self]; rfl) (by omega)
  have hnd : rNd T k = 0 := by unfold rNd; rw [if_neg (by omega), if_neg (by omega), hnk]
  rw [hnd, if_neg (Nat.lt_irrefl 0)] at hwant
  have hfin : mX12_finish (nI fs.length) (nI k) (va_up (va_up (va_up iw 57 (nI (s + 1))) 71 (nI (fs.length + 1))) 73 (-1)) (au (au (au (au aw 66 fs.length (nI k)) 67 fs.length c) 68 fs.length 0) 69 fs.length m1) = some (nI w, va_up (va_up (va_up (va_up iw 57 (nI (s + 1))) 71 (nI (fs.length + 1))) 73 (-1)) 71 (nI fs.length), au (au (au (au aw 66 fs.length (nI k)) 67 fs.length c) 68 fs.length 0) 69 fs.length m1) := by
    rw [rfn20 (by omega) hk2 (by rw [t1, e]), ncl (show fs.length < 2147483648 by omega), show (au (au (au (au aw 66 fs.length (nI k)) 67 fs.length c) 68 fs.length 0) 69 fs.length m1) 67 fs.length = c by rw [au_ne _ (by decide), au_ne _ (by decide), au_self], show (va_up (va_up (va_up iw 57 (nI (s + 1))) 71 (nI (fs.length + 1))) 73 (-1)) 71 = nI (fs.length + 1) from rfl, nsub1]
    exact v4
  rw [hC, c_gave hB rfl rfl (by omega), hR, r_fin hwant hfin rfl z1 rfl o3]
  have hhv : hh ∈ vis := (hok.2.2 k k1).2.2.2.2.1 hh (List.mem_of_getElem? j2)
  obtain ⟨ty1, ty2', ty3, -⟩ := (hok.2.2 k k1)
  obtain ⟨J2, hh2, u1, u2, u3⟩ := ty3.1 e
  have eJ : J2 = J := by
    rw [j1] at u1
    have h2 : J2 < (tSc T k).length := (List.getElem?_eq_some_iff.mp u2).1
    exact ((nI_eq (by omega) (by omega)).mp u1).symm
  rw [eJ, j2] at u2
  cases u2
  refine Or.inr (Or.inl ⟨τ, nv, nc, fs, w, F2, va_up (va_up (va_up iv 408 (nI (s + 1))) 409 (-1)) 412 (nI w), ar, _, _, rfl, rfl, by omega, ⟨⟨vr, cr⟩, ⟨vt, fo⟩, ⟨o1, o2, o3⟩, ⟨s1, s2, s3, s4⟩, z1, z2⟩, ⟨⟨rfl, rfl, q3⟩, rfl, v1, exB_ty hok hA fo ty2' (vt w v1).1.1 (by rw [u3]; exact v2) k3⟩, by omega, ⟨fun x a b c => by rw [va_up_ne _ _ (by omega), va_up_ne _ _ (by omega), va_up_ne _ _ (by omega)], fun _ _ => rfl⟩, ⟨fun x hx => by rw [va_up_ne _ _ (by omega), va_up_ne _ _ (by omega), va_up_ne _ _ (by omega), va_up_ne _ _ (by omega)], fun x hx => by rw [au_ne _ (by omega), au_ne _ (by omega), au_ne _ (by omega), au_ne _ (by omega)]⟩⟩)
end
