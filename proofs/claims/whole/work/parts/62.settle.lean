theorem pm1 (a : Int32) : a + (-1) = a - 1 := by rw [Int32.sub_eq_add_neg]
theorem au_self (ar : mA) (k i : Nat) (x : Int32) : au ar k i x k i = x := by rw [aur, if_pos rfl, if_pos rfl]
theorem au_ne (ar : mA) {k i : Nat} {x : Int32} {k2 : Nat} (h : k2 ≠ k) : au ar k i x k2 = ar k2 := by
  unfold au
  rw [va_up_ne _ _ h]
theorem au_ni (ar : mA) {k i : Nat} {x : Int32} {j : Nat} (h : j ≠ i) : au ar k i x k j = ar k j := by rw [aur, if_pos rfl, if_neg h]
theorem nsub1 (a : Nat) : nI (a + 1) - 1 = nI a := by rw [show (1 : Int32) = nI 1 from rfl, nsub (by omega), Nat.add_sub_cancel]
theorem nm_v (v : Nat) (hv : v ≤ 9) : ¬ nI (v + 1) - 1 = (-1 : Int32) := by rw [nsub1, nm1ne (by omega)]; exact id
theorem m0l : nI 0 - 1 = (-1 : Int32) := by decide
/-- what settling leaves alone -/
def fS (f0 : Nat) (iv : mI) (ar : mA) (iw : mI) (aw : mA) (iv2 : mI) (ar2 : mA) (iw2 : mI) (aw2 : mA) : Prop := (∀ k, k ≠ 906 → iv2 k = iv k) ∧ (∀ k, k ≠ 29 → iw2 k = iw k) ∧ fT f0 iv ar iv2 ar2 ∧ fU f0 iw aw iw2 aw2
theorem fS_t {f0 : Nat} {iv iv2 iv3 : mI} {ar ar2 ar3 : mA} {iw iw2 iw3 : mI} {aw aw2 aw3 : mA} (h : fS f0 iv ar iw aw iv2 ar2 iw2 aw2) (h2 : fS f0 iv2 ar2 iw2 aw2 iv3 ar3 iw3 aw3) : fS f0 iv ar iw aw iv3 ar3 iw3 aw3 := ⟨fun k hk => by rw [h2.1 k hk, h.1 k hk], fun k hk => by rw [h2.2.1 k hk, h.2.1 k hk], fT_t h.2.2.1 h2.2.2.1, fU_t h.2.2.2 h2.2.2.2⟩
/-- settling an 8 -/
theorem c_set8 {n : Nat} {x : Int32} {iv : mI} {ar : mA} {la : mL} {pA pB : mA} {L v : Nat} (hL : L < 200) (hv : v ≤ 9) (h1 : ar 903 L = nI (v + 1) - 1) (h2 : ar 904 L = nI 1) : mX9_settle_L9 (n + 1) x (nI (L + 1) - 1) iv ar la pA pB = mX9_settle_L9 n x (nI L - 1) (va_up iv 906 (nI L)) (au ar 904 L (nI 0)) la pA pB := by
  rw [nsub1]
  conv => lhs; unfold mX9_settle_L9
  rw [if_neg (nI_pos (by omega)), if_neg (by first | exact nI_in (by omega) (by omega) | exact nI_inn (by omega) (by omega)), ncl (by omega), h1, if_neg (nm_v v hv)]
  unfold mX9_settle_J50
  rw [if_neg (by first | exact nI_in (by omega) (by omega) | exact nI_inn (by omega) (by omega)), if_neg (by first | exact nI_in (by omega) (by omega) | exact nI_inn (by omega) (by omega)), if_neg (by first | exact nI_in (by omega) (by omega) | exact nI_inn (by omega) (by omega)), ncl (by omega), h2, au_self, show nI 1 - 1 = nI 0 from nsub1 0, if_pos (show nI 0 ≤ (0 : Int32) by decide), pm1]
theorem r_set8 {n : Nat} {x : Int32} {iw : mI} {aw : mA} {L v : Nat} (hL : L < 200) (hv : v ≤ 9) (h0 : iw 24 = 0) (h1 : iw 29 = nI (L + 1)) (h2 : aw 26 L = nI (v + 1) - 1) : mX12_settle_L4 (n + 1) x 1 iw aw = mX12_settle_L4 n x 1 (va_up iw 29 (nI L)) aw := by
  conv => lhs; unfold mX12_settle_L4
  rw [if_neg (show ¬ (1 : Int32) = 0 by decide), h1, if_neg (show ¬ nI (L + 1) ≤ 0 from nI_ge (show 0 < L + 1 by omega) (by omega)), if_pos h0, nsub1, if_neg (by first | exact nI_in (by omega) (by omega) | exact nI_inn (by omega) (by omega)), ncl (by omega), h2, nsub1, if_neg (nI_pos (by omega))]
/-- settling a node -/
theorem c_setN {n : Nat} {x : Int32} {iv : mI} {ar : mA} {la : mL} {pA pB : mA} {L y lf l g m : Nat} (hL : L < 200) (h0 : iv 303 = nI g) (hg : g ≤ 400) (hy : y < g) (hl : 1 ≤ l) (hl8 : l ≤ 8) (hlf : 1 ≤ lf) (hlf8 : lf ≤ 8) (h1 : ar 903 L = nI 0 - 1) (h2 : ar 904 L = nI lf) (h3 : ar 902 L = nI y) (h4 : ar 905 L = nI l - 1) (h5 : ar 301 y = nI m) (hm : m < 256) : mX9_settle_L9 (n + 1) x (nI (L + 1) - 1) iv ar la pA pB = if lf = 1 then mX9_settle_L9 n (nI y) (nI L - 1) (va_up iv 906 (nI L)) (au (au (au ar 301 y (nI (m ||| 2 ^ (l - 1)))) 302 (y * 8 + (l - 1)) x) 904 L (nI (lf - 1))) la pA pB else some (0, iv, au (au (au ar 301 y (nI (m ||| 2 ^ (l - 1)))) 302 (y * 8 + (l - 1)) x) 904 L (nI (lf - 1)), la, pA, pB) := by
  rw [nsub1]
  conv => lhs; unfold mX9_settle_L9
  have e4 : ar 905 L = nI (l - 1) := by
    rw [h4, show l = (l - 1) + 1 by omega, nsub1, Nat.add_sub_cancel]
  rw [if_neg (nI_pos (by omega)), if_neg (by first | exact nI_in (by omega) (by omega) | exact nI_inn (by omega) (by omega)), ncl (by omega), h1, if_pos m0l, if_neg (by first | exact nI_in (by omega) (by omega) | exact nI_inn (by omega) (by omega)), if_neg (by first | exact nI_in (by omega) (by omega) | exact nI_inn (by omega) (by omega)), h3, e4, c_setP h0 hg hy (show l - 1 < 8 by omega) x h5 hm, obce, if_neg (by first | exact nI_in (by omega) (by omega) | exact nI_inn (by omega) (by omega))]
  unfold mX9_settle_J50
  have e2 : (au (au ar 301 y (nI (m ||| 2 ^ (l - 1)))) 302 (y * 8 + (l - 1)) x) 904 L = nI lf := by
    rw [au_ne _ (by decide), au_ne _ (by decide)]
    exact h2
  have e3 : (au (au ar 301 y (nI (m ||| 2 ^ (l - 1)))) 302 (y * 8 + (l - 1)) x) 902 L = nI y := by
    rw [au_ne _ (by decide), au_ne _ (by decide)]
    exact h3
  rw [if_neg (by first | exact nI_in (by omega) (by omega) | exact nI_inn (by omega) (by omega)), if_neg (by first | exact nI_in (by omega) (by omega) | exact nI_inn (by omega) (by omega)), if_neg (by first | exact nI_in (by omega) (by omega) | exact nI_inn (by omega) (by omega)), ncl (by omega), e2, e3, au_self, show nI lf - 1 = nI (lf - 1) by rw [show lf = (lf - 1) + 1 by omega, nsub1, Nat.add_sub_cancel], pm1]
  by_cases e : lf = 1
  · rw [if_pos e, if_pos (show nI (lf - 1) ≤ (0 : Int32) by rw [e]; decide)]
  · rw [if_neg e, if_neg (show ¬ nI (lf - 1) ≤ (0 : Int32) from nI_ge (show 0 < lf - 1 by omega) (by omega))]
theorem r_setN {n : Nat} {x : Int32} {iw : mI} {aw : mA} {L y lf l g : Nat} (hL : L < 200) (h0 : iw 24 = 0) (h1 : iw 29 = nI (L + 1)) (hg : g ≤ 400) (hy : y < g) (hl : 1 ≤ l) (hl8 : l ≤ 8) (hlf : 1 ≤ lf) (hlf8 : lf ≤ 8) (h2 : aw 26 L = nI 0 - 1) (h3 : aw 27 L = nI lf) (h4 : aw 25 L = nI y) (h5 : aw 28 L = nI l - 1) : mX12_settle_L4 (n + 1) x 1 iw aw = if lf = 1 then mX12_settle_L4 n (nI y) 1 (va_up iw 29 (nI L)) (au (au aw 6 (8 * y + (l - 1)) x) 27 L (nI (lf - 1))) else ob (mX12_takeLabel iw (au (au aw 6 (8 * y + (l - 1)) x) 27 L (nI (lf - 1)))) (fun _ iw99 ar99 => mX12_settle_L4 n x 0 iw99 ar99) := by
  conv => lhs; unfold mX12_settle_L4
  have e5 : aw 28 L = nI (l - 1) := by
    rw [h5, show l = (l - 1) + 1 by omega, nsub1, Nat.add_sub_cancel]
  have e3 : (au aw 6 (8 * y + (l - 1)) x) 27 L = nI lf := by
    rw [au_ne _ (by decide)]
    exact h3
  have e4 : (au (au aw 6 (8 * y + (l - 1)) x) 27 L (nI (lf - 1))) 25 L = nI y := by
    rw [au_ne _ (by decide), au_ne _ (by decide)]
    exact h4
  rw [if_neg (show ¬ (1 : Int32) = 0 by decide), h1, if_neg (show ¬ nI (L + 1) ≤ 0 from nI_ge (show 0 < L + 1 by omega) (by omega)), if_pos h0, nsub1, if_neg (by first | exact nI_in (by omega) (by omega) | exact nI_inn (by omega) (by omega)), ncl (by omega), h2, if_pos (show nI 0 - 1 < (0 : Int32) by decide), if_neg (by first | exact nI_in (by omega) (by omega) | exact nI_inn (by omega) (by omega)), if_neg (by first | exact nI_in (by omega) (by omega) | exact nI_inn (by omega) (by omega)), h4, e5, show (8 : Int32) = nI 8 from rfl, nmul, nadd, if_neg (by first | exact nI_in (by omega) (by omega) | exact nI_inn (by omega) (by omega)), if_neg (by first | exact nI_in (by omega) (by omega) | exact nI_inn (by omega) (by omega)), if_neg (by first | exact nI_in (by omega) (by omega) | exact nI_inn (by omega) (by omega)), if_neg (by first | exact nI_in (by omega) (by omega) | exact nI_inn (by omega) (by omega)), ncl (by omega), e3, show nI lf - 1 = nI (lf - 1) by rw [show lf = (lf - 1) + 1 by omega, nsub1, Nat.add_sub_cancel], au_self, e4]
  by_cases e : lf = 1
  · rw [if_pos e, if_pos (show nI (lf - 1) ≤ (0 : Int32) by rw [e]; decide), if_neg (by first | exact nI_in (by omega) (by omega) | exact nI_inn (by omega) (by omega))]
  · rw [if_neg e, if_neg (show ¬ nI (lf - 1) ≤ (0 : Int32) from nI_ge (show 0 < lf - 1 by omega) (by omega))]
