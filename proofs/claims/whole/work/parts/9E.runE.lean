/-- the reference: whether a begun term wants another one done -/
def rNd (T : TT) (k : Nat) : Nat := if tWd T k = 28 ∨ tWd T k = 32 then 1 else if tWd T k = 21 ∨ tWd T k = 33 then 0 else tNk T k
theorem r_wants {g0 : Nat} {kd0 lb0 : Nat → Nat} {m : Nat} {T : TT} {iw : mI} {aw : mA} {f k n : Nat} (hA : tAll g0 kd0 lb0 m T) (hd : tDo m T aw) (hk : k < m) (hf : f < 301) (h68 : aw 68 f = nI n) (hn : n ≤ 9) : mX12_wantsMore (nI f) (nI k) iw aw = if n < rNd T k then some (1, va_up (va_up (va_up iw 73 (nI (tKt T k n))) 74 (aw 67 f)) 75 (-1), aw) else some (0, iw, aw) := by
  have hO := (hA.2.2 k hk).1.1
  have h9 := hOK9 hO
  have hw := hO.1
  have hk2 : k < 200 := Nat.lt_of_lt_of_le hk hA.2.1
  obtain ⟨⟨d1, d2, d3, d4⟩, d5⟩ := hd k hk
  have j98 : ∀ i, i < tNk T k → mX12_wantsMore_J98 (nI f) (nI k) (nI i) iw aw = some (1, va_up (va_up (va_up iw 73 (nI (tIn T k i))) 74 (aw 67 f)) 75 (-1), aw) := by
    intro i hi
    unfold mX12_wantsMore_J98 mX12_next
    rw [show (9 : Int32) * nI k + nI i = nI (9 * k + i) by rw [show (9 : Int32) = nI 9 from rfl, nmul, nadd], if_neg (by first | exact nI_in (by omega) (by omega) | exact nI_inn (by omega) (by omega)), if_neg (by first | exact nI_in (by omega) (by omega) | exact nI_inn (by omega) (by omega)), ncl (by omega), ncl (by omega), (d5 i hi).1, obe]
  have j65 : ∀ N, N ≤ tNk T k → (tWd T k = 32 → N ≤ 1) → mX12_wantsMore_J65 (nI f) (nI k) (nI n) (nI N) iw aw = if n < N then some (1, va_up (va_up (va_up iw 73 (nI (tKt T k n))) 74 (aw 67 f)) 75 (-1), aw) else some (0, iw, aw) := by
    intro N hN h32
    unfold mX12_wantsMore_J65
    by_cases e : n < N
    · rw [if_pos e, if_pos (nI_lt e (by omega)), if_neg (by first | exact nI_in (by omega) (by omega) | exact nI_inn (by omega) (by omega)), ncl (by omega), d1]
      by_cases e32 : tWd T k = 32
      · have n0 : n = 0 := by have := h32 e32; omega
        have ekt : tKt T k n = tIn T k (tNk T k - 1) := by unfold tKt tTp; rw [if_pos e32, if_pos n0]
        rw [if_pos (show nI (tWd T k) = 32 by rw [e32]; rfl), if_neg (by first | exact nI_in (by omega) (by omega) | exact nI_inn (by omega) (by omega)), d4, show nI (tNk T k) - 1 = nI (tNk T k - 1) by rw [show tNk T k = (tNk T k - 1) + 1 by omega, nsub1, Nat.add_sub_cancel], j98 _ (by omega), ekt]
      · have ekt : tKt T k n = tIn T k n := by unfold tKt tTp; rw [if_neg e32]
        rw [if_neg (show ¬ nI (tWd T k) = 32 from fun q => e32 ((nI_eq (b := 32) (by omega) (by decide)).mp q)), j98 _ (by omega), ekt]
    · rw [if_neg e, if_neg (nI_nlt (by omega) (by omega))]
  unfold mX12_wantsMore rNd
  rw [if_neg (by first | exact nI_in (by omega) (by omega) | exact nI_inn (by omega) (by omega)), if_neg (by first | exact nI_in (by omega) (by omega) | exact nI_inn (by omega) (by omega)), ncl (show k < 2147483648 by omega), d1, ncl (show f < 2147483648 by omega), h68]
  by_cases e28 : tWd T k = 28
  · have hnk := hO.2.2.2.2.2.1 e28
    rw [if_pos (show nI (tWd T k) = 28 by rw [e28]; rfl), if_pos (Or.inl e28)]
    exact j65 1 (by omega) (fun _ => Nat.le_refl 1)
  · rw [if_neg (show ¬ nI (tWd T k) = 28 from fun q => e28 ((nI_eq (b := 28) (by omega) (by decide)).mp q)), if_neg (by first | exact nI_in (by omega) (by omega) | exact nI_inn (by omega) (by omega))]
    by_cases e32 : tWd T k = 32
    · have hnk := (hO.2.2.2.2.2.2.2.2.2 e32).1
      rw [if_pos (show nI (tWd T k) = 32 by rw [e32]; rfl), if_pos (Or.inr e32)]
      exact j65 1 hnk (fun _ => Nat.le_refl 1)
    · rw [if_neg (show ¬ nI (tWd T k) = 32 from fun q => e32 ((nI_eq (b := 32) (by omega) (by decide)).mp q)), if_neg (by first | exact nI_in (by omega) (by omega) | exact nI_inn (by omega) (by omega)), if_neg (show ¬ (tWd T k = 28 ∨ tWd T k = 32) by omega)]
      by_cases e21 : tWd T k = 21
      · rw [if_pos (show nI (tWd T k) = 21 by rw [e21]; rfl), if_pos (show tWd T k = 21 ∨ tWd T k = 33 from Or.inl e21)]
        exact j65 0 (Nat.zero_le _) (fun _ => by omega)
      · rw [if_neg (show ¬ nI (tWd T k) = 21 from fun q => e21 ((nI_eq (b := 21) (by omega) (by decide)).mp q)), if_neg (by first | exact nI_in (by omega) (by omega) | exact nI_inn (by omega) (by omega))]
        by_cases e33 : tWd T k = 33
        · rw [if_pos (show nI (tWd T k) = 33 by rw [e33]; rfl), if_pos (show tWd T k = 21 ∨ tWd T k = 33 from Or.inr e33)]
          exact j65 0 (Nat.zero_le _) (fun _ => by omega)
        · rw [if_neg (show ¬ nI (tWd T k) = 33 from fun q => e33 ((nI_eq (b := 33) (by omega) (by decide)).mp q)), if_neg (by first | exact nI_in (by omega) (by omega) | exact nI_inn (by omega) (by omega)), d4, if_neg (show ¬ (tWd T k = 21 ∨ tWd T k = 33) by omega)]
          exact j65 (tNk T k) (Nat.le_refl _) (fun h => absurd h e32)
/-- what a run may change -/
def fRc (iv : mI) (ar : mA) (iv2 : mI) (ar2 : mA) : Prop := (∀ k, k ≠ 1005 → k ≠ 102 → k < 407 ∨ 412 < k → iv2 k = iv k) ∧ (∀ k, k < 100 ∨ (101 < k ∧ k < 403) ∨ (406 < k ∧ k < 1000) ∨ 1004 < k → ar2 k = ar k)
def fRr (iw : mI) (aw : mA) (iw2 : mI) (aw2 : mA) : Prop := (∀ k, k < 56 ∨ k = 58 ∨ 75 < k → iw2 k = iw k) ∧ (∀ k, k < 58 ∨ 70 < k → aw2 k = aw k)
theorem fRc_t {iv iv2 iv3 : mI} {ar ar2 ar3 : mA} (h : fRc iv ar iv2 ar2) (h2 : fRc iv2 ar2 iv3 ar3) : fRc iv ar iv3 ar3 := ⟨fun k a b c => by rw [h2.1 k a b c, h.1 k a b c], fun k a => by rw [h2.2 k a, h.2 k a]⟩
theorem fRr_t {iv iv2 iv3 : mI} {ar ar2 ar3 : mA} (h : fRr iv ar iv2 ar2) (h2 : fRr iv2 ar2 iv3 ar3) : fRr iv ar iv3 ar3 := ⟨fun k a => by rw [h2.1 k a, h.1 k a], fun k a => by rw [h2.2 k a, h.2 k a]⟩
/-- the class begins the term that is due -/
theorem c_turnD {T : TT} {n t s lim L k : Nat} {c : Int32} {iv : mI} {ar : mA} {la : mL} {pA pB : mA} (ht : t < 40002) (hs : s < lim) (hlim : lim ≤ 20000) (hL : L < 300) (hp : tPl T k < 200) (h7 : iv 407 = nI L) (h8 : iv 408 = nI s) (h9 : iv 409 = nI (tPl T k)) (h10 : iv 410 = c) : mX4_perform_L22 (n + 1) (nI lim) (nI t) iv ar la pA pB = obc (mX4_begin (nI (tPl T k)) c (va_up iv 408 (nI (s + 1))) ar la pA pB) (fun _ iv105 ar105 la105 pA105 pB105 => mX4_perform_J108 (mX4_perform_L22 n) (nI lim) (nI t) iv105 ar105 la105 pA105 pB105) := by
  have hne : ¬ nI (tPl T k) = -1 := by rw [nm1ne (by omega)]; exact id
  conv => lhs; rw [mX4_perform_L22]
  rw [if_neg (show ¬ (40002 : Int32) ≤ nI t from nI_ge ht (by decide)), h9, if_neg hne]
  unfold mX4_perform_J48
  rw [h9, if_neg hne, h8, if_pos (nI_lt hs (by omega)), h7, if_pos (show nI L < (300 : Int32) from nI_lt hL (by decide)), show nI s + 1 = nI (s + 1) from nadd _ 1, show (va_up iv 408 (nI (s + 1))) 409 = nI (tPl T k) from h9, show (va_up iv 408 (nI (s + 1))) 410 = c from h10]
/-- the reference begins it -/
theorem r_turnD {n s lim L k : Nat} {c pn : Int32} {iw : mI} {aw : mA} (hs : s < lim) (hlim : lim ≤ 20000) (hL : L < 300) (h71 : iw 71 = nI L) (h57 : iw 57 = nI s) (h72 : iw 72 = 0) (h73 : iw 73 = nI k) (h74 : iw 74 = c) (h75 : iw 75 = pn) : ∃ F, 5000 < F ∧ mX12_run_L63 (n + 1) (nI lim) (-1) iw aw = ob (mX12_goOn_J61 (mX12_goOn_L2 F) (nI L) (nI k) (va_up (va_up (va_up iw 57 (nI (s + 1))) 71 (nI (L + 1))) 73 (-1)) (au (au (au (au aw 66 L (nI k)) 67 L c) 68 L 0) 69 L pn)) (fun r129 iv129 ar129 => mX12_run_L63 n (nI lim) r129 iv129 ar129) := by
  obtain ⟨F, hF, hFF⟩ : ∃ F, bigF = F + 1 ∧ 5000 < F := ⟨999999, rfl, by omega⟩
  refine ⟨F, hFF, ?_⟩
  conv => lhs; rw [mX12_run_L63]
  unfold mX12_begin mX12_goOn
  rw [if_neg (show ¬ (0 : Int32) ≤ -1 by decide), if_pos h72, h57, if_neg (show ¬ nI s = nI lim from fun q => by have := (nI_eq (by omega) (by omega)).mp q; omega), h71, if_neg (show ¬ nI L = 300 from fun q => by have := (nI_eq (b := 300) (by omega) (by decide)).mp q; omega), show nI s + 1 = nI (s + 1) from nadd _ 1, show (va_up iw 57 (nI (s + 1))) 71 = nI L from h71, if_neg (by first | exact nI_in (by omega) (by omega) | exact nI_inn (by omega) (by omega)), if_neg (by first | exact nI_in (by omega) (by omega) | exact nI_inn (by omega) (by omega)), if_neg (by first | exact nI_in (by omega) (by omega) | exact nI_inn (by omega) (by omega)), if_neg (by first | exact nI_in (by omega) (by omega) | exact nI_inn (by omega) (by omega)), ncl (by omega), show nI L + 1 = nI (L + 1) from nadd _ 1, obe, show (va_up iw 57 (nI (s + 1))) 73 = nI k from h73, show (va_up iw 57 (nI (s + 1))) 74 = c from h74, show (va_up iw 57 (nI (s + 1))) 75 = pn from h75, hF]
  conv => lhs; rw [mX12_goOn_L2]
  rw [if_neg (show ¬ (0 : Int32) ≤ (va_up (va_up (va_up iw 57 (nI (s + 1))) 71 (nI (L + 1))) 73 (-1)) 73 from (show ¬ (0 : Int32) ≤ -1 by decide)), if_pos (show (va_up (va_up (va_up iw 57 (nI (s + 1))) 71 (nI (L + 1))) 73 (-1)) 72 = 0 from h72), show (va_up (va_up (va_up iw 57 (nI (s + 1))) 71 (nI (L + 1))) 73 (-1)) 71 = nI (L + 1) from rfl, nsub1, if_neg (nI_in (c := L) (N := 301) (by omega) (by decide)), if_pos (show (-1 : Int32) < 0 by decide), ncl (by omega), au_ne _ (by decide), au_ne _ (by decide), au_ne _ (by decide), au_self]
/-- the reference with a value that a begun term got -/
def rGo (n F lim L : Nat) (v : Int32) (iw : mI) (aw : mA) : Option (Int32 × mI × mA) := if L = 0 then mX12_run_L63 n (nI lim) v iw aw else ob (mX12_goOn_L2 F v iw aw) (fun r129 iv129 ar129 => mX12_run_L63 n (nI lim) r129 iv129 ar129)
/-- a begun term of the reference is finished with a value -/
theorem r_fin {n F lim L f v : Nat} {k : Int32} {iw iw2 : mI} {aw aw2 : mA} (hw : mX12_wantsMore (nI f) k iw aw = some (0, iw, aw)) (hf : mX12_finish (nI f) k iw aw = some (nI v, iw2, aw2)) (h73 : iw2 73 = m1) (h72 : iw2 72 = 0) (h71 : iw2 71 = nI L) (hL : L ≤ 300) : ob (mX12_goOn_J61 (mX12_goOn_L2 F) (nI f) k iw aw) (fun r129 iv129 ar129 => mX12_run_L63 n (nI lim) r129 iv129 ar129) = rGo n F lim L (nI v) iw2 aw2 := by
  unfold mX12_goOn_J61 rGo
  rw [hw, obe, if_pos rfl, hf, obe, h73, if_neg (show ¬ (0 : Int32) ≤ m1 by decide), if_pos h72, h71]
  by_cases e : L = 0
  · rw [if_pos (show nI L = 0 by rw [e]; rfl), if_pos e, obe]
  · rw [if_neg (show ¬ nI L = 0 from fun q => e ((nI_eq (b := 0) (by omega) (by decide)).mp q)), if_neg e]
/-- one whose term is next -/
theorem r_nxt {n F lim f : Nat} {k : Int32} {iw iw2 : mI} {aw aw2 : mA} {r : Int32} (hw : mX12_wantsMore (nI f) k iw aw = some (0, iw, aw)) (hf : mX12_finish (nI f) k iw aw = some (r, iw2, aw2)) (h73 : 0 ≤ iw2 73) (hF : 0 < F) : ob (mX12_goOn_J61 (mX12_goOn_L2 F) (nI f) k iw aw) (fun r129 iv129 ar129 => mX12_run_L63 n (nI lim) r129 iv129 ar129) = mX12_run_L63 n (nI lim) (-1) iw2 aw2 := by
  obtain ⟨F, rfl⟩ : ∃ x, F = x + 1 := ⟨F - 1, by omega⟩
  unfold mX12_goOn_J61
  rw [hw, obe, if_pos rfl, hf, obe, if_pos h73]
  rw [mX12_goOn_L2]
  rw [if_pos h73, obe]
/-- one that wants another term -/
theorem r_mor {n F lim f : Nat} {k : Int32} {iw iw2 : mI} {aw : mA} (hw : mX12_wantsMore (nI f) k iw aw = some (1, iw2, aw)) (h73 : 0 ≤ iw2 73) (hF : 0 < F) : ob (mX12_goOn_J61 (mX12_goOn_L2 F) (nI f) k iw aw) (fun r129 iv129 ar129 => mX12_run_L63 n (nI lim) r129 iv129 ar129) = mX12_run_L63 n (nI lim) (-1) iw2 aw := by
  obtain ⟨F, rfl⟩ : ∃ x, F = x + 1 := ⟨F - 1, by omega⟩
  unfold mX12_goOn_J61
  rw [hw, obe, if_neg (show ¬ (1 : Int32) = 0 by decide)]
  rw [mX12_goOn_L2]
  rw [if_pos h73, obe]
/-- no room -/
theorem r_rom {n F lim f : Nat} {k : Int32} {iw iw2 : mI} {aw aw2 : mA} {r : Int32} (hw : mX12_wantsMore (nI f) k iw aw = some (0, iw, aw)) (hf : mX12_finish (nI f) k iw aw = some (r, iw2, aw2)) (h73 : iw2 73 = m1) (h72 : iw2 72 = m16) (hF : 0 < F) (hn : 0 < n) : ob (mX12_goOn_J61 (mX12_goOn_L2 F) (nI f) k iw aw) (fun r129 iv129 ar129 => mX12_run_L63 n (nI lim) r129 iv129 ar129) = some (m16, iw2, aw2) := by
  obtain ⟨F, rfl⟩ : ∃ x, F = x + 1 := ⟨F - 1, by omega⟩
  obtain ⟨n, rfl⟩ : ∃ x, n = x + 1 := ⟨n - 1, by omega⟩
  have h72' : ¬ iw2 72 = 0 := by rw [h72]; decide
  unfold mX12_goOn_J61
  rw [hw, obe, if_pos rfl, hf, obe, h73, if_neg (show ¬ (0 : Int32) ≤ m1 by decide), if_neg h72']
  rw [mX12_goOn_L2]
  rw [h73, if_neg (show ¬ (0 : Int32) ≤ m1 by decide), if_neg h72', obe]
  rw [mX12_run_L63]
  unfold mX12_run_J136
  rw [if_neg (show ¬ (0 : Int32) ≤ -1 by decide), if_neg h72', if_neg h72', h72]
