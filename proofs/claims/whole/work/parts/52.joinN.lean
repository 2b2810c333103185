theorem r_turn {f n : Nat} {kd lb : Nat → Nat} {pt : Nat → Nat → Nat} {th ta tb P : Nat → Nat} {rs : Nat → Nat → Nat} {h a b o l : Nat} {qs : List Ask} {iw : mI} {aw : mA} (hR : jR f n kd lb pt th ta tb P rs ((h, a, b, o, l) :: qs) iw aw) (hq : qs.length < 4000) (x z : Int32) (fu : Nat) :
    jR f n kd lb pt th ta tb P rs qs (va_up iw 17 (nI qs.length)) aw ∧
    mX12_join_L28 (fu + 1) x z iw aw = ob (mX12_simple (nI h) (nI a) (nI b) (va_up iw 17 (nI qs.length)) aw) (fun r i w => if 0 ≤ r then mX12_join_J132 (mX12_join_L28 fu) x z (nI o) (nI l) (nI h) (nI a) (nI b) r i w else ob (mX12_findMade (nI h) (nI a) (nI b) i w) (fun r i w => mX12_join_J132 (mX12_join_L28 fu) x z (nI o) (nI l) (nI h) (nI a) (nI b) r i w)) := by
  obtain ⟨⟨r1, r2, r3⟩, r4, r5, s1, s2, s3, s4, s5, s6⟩ := hR
  rw [List.length_cons] at r3
  refine ⟨⟨⟨by rw [va_up_ne _ _ (by decide)]; exact r1, by rw [va_up_ne _ _ (by decide)]; exact r2, va_up_self _ _ _⟩, r4, r5, s6⟩, ?_⟩
  have hin : ¬ (nI qs.length < 0 ∨ 4000 ≤ (nI qs.length).toNatClampNeg) := nI_in (by omega) (by omega)
  rw [mX12_join_L28, r3, if_neg (show ¬ nI (qs.length + 1) ≤ 0 from nI_ge (show 0 < qs.length + 1 by omega) (by omega)), show (1 : Int32) = nI 1 from rfl, nsub (by omega), Nat.add_sub_cancel, va_up_self, if_neg hin, if_neg hin, if_neg hin, if_neg hin, if_neg hin, ncl (by omega), s1, s2, s3, s4, s5]
theorem r_put {iw : mI} {aw : mA} {o l r : Nat} {k28 : Int32 → Int32 → mI → mA → Option (Int32 × mI × mA)} (x z : Int32) (ho : o < 200) (hl : l < 8) : mX12_join_J170 k28 x z (nI o) (nI l) (nI r) iw aw = k28 x z iw (au aw 6 (8 * o + l) (nI r)) := by
  unfold mX12_join_J170
  rw [if_neg (nI_pos (by omega)), show (8 : Int32) = nI 8 from rfl, nmul, nadd, if_neg (nI_in (by omega) (by omega)), ncl (by omega)]
theorem r_known {iw : mI} {aw : mA} {h a b o l r : Nat} (hr : r < 400) (ho : o < 200) (hl : l < 8) (x z : Int32) (fu : Nat) (hk : mX12_simple (nI h) (nI a) (nI b) iw aw = some (nI r, iw, aw) ∨ (mX12_simple (nI h) (nI a) (nI b) iw aw = some (m1, iw, aw) ∧ mX12_findMade (nI h) (nI a) (nI b) iw aw = some (nI r, iw, aw))) :
    ob (mX12_simple (nI h) (nI a) (nI b) iw aw) (fun r i w => if 0 ≤ r then mX12_join_J132 (mX12_join_L28 fu) x z (nI o) (nI l) (nI h) (nI a) (nI b) r i w else ob (mX12_findMade (nI h) (nI a) (nI b) i w) (fun r i w => mX12_join_J132 (mX12_join_L28 fu) x z (nI o) (nI l) (nI h) (nI a) (nI b) r i w)) = mX12_join_L28 fu x z iw (au aw 6 (8 * o + l) (nI r)) := by
  have h0 : (0 : Int32) ≤ nI r := nI_pos' (by omega)
  rcases hk with e | ⟨e1, e2⟩
  · rw [e, obe, if_pos h0]
    unfold mX12_join_J132
    rw [if_pos h0, r_put x z ho hl]
  · rw [e1, obe, if_neg (show ¬ (0 : Int32) ≤ m1 by decide), e2, obe]
    unfold mX12_join_J132
    rw [if_pos h0, r_put x z ho hl]
theorem r_none {iw : mI} {aw : mA} {h a b o l n : Nat} (h3 : iw 3 = nI n) (hn : n ≤ 200) (ho : o < 200) (hl : l < 8) (x z : Int32) (fu : Nat) (e1 : mX12_simple (nI h) (nI a) (nI b) iw aw = some (m1, iw, aw)) (e2 : mX12_findMade (nI h) (nI a) (nI b) iw aw = some (m1, iw, aw)) :
    ob (mX12_simple (nI h) (nI a) (nI b) iw aw) (fun r i w => if 0 ≤ r then mX12_join_J132 (mX12_join_L28 fu) x z (nI o) (nI l) (nI h) (nI a) (nI b) r i w else ob (mX12_findMade (nI h) (nI a) (nI b) i w) (fun r i w => mX12_join_J132 (mX12_join_L28 fu) x z (nI o) (nI l) (nI h) (nI a) (nI b) r i w)) = if n < 200 then ob (mX12_make (nI h) (nI a) (nI b) iw aw) (fun r i w => mX12_join_J170 (mX12_join_L28 fu) x z (nI o) (nI l) r i w) else some (m3, va_up iw 3 x, aw) := by
  rw [e1, obe, if_neg (show ¬ (0 : Int32) ≤ m1 by decide), e2, obe]
  unfold mX12_join_J132
  rw [if_neg (show ¬ (0 : Int32) ≤ m1 by decide), h3]
  by_cases q : n < 200
  · rw [if_pos (show nI n < (200 : Int32) from nI_lt q (by decide)), if_pos q]
  · rw [if_neg (show ¬ nI n < (200 : Int32) from nI_nlt (show 200 ≤ n by omega) (by omega)), if_neg q]
    rfl
