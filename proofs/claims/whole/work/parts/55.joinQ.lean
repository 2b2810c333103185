/-- the reference's first turn -/
theorem r_first {f : Nat} {kd lb : Nat → Nat} {pt : Nat → Nat → Nat} {iw : mI} {aw : mA} (hr : rG f kd lb pt iw aw) (h a b : Nat) (th ta tb P : Nat → Nat) (rs : Nat → Nat → Nat) (F : Nat) : ∃ (iw0 : mI) (aw0 : mA), fR iw aw iw0 aw0 ∧ jR f f kd lb pt th ta tb P rs [] iw0 aw0 ∧
    ob (mX12_ask (nI h) (nI a) (nI b) (-1) 0 (va_up (va_up iw 22 0) 17 0) aw) (fun r22 iv22 ar22 => mX12_join_L28 (F + 1) (iw 3) (-1) iv22 ar22) = ob (mX12_simple (nI h) (nI a) (nI b) iw0 aw0) (fun r i w => if 0 ≤ r then mX12_join_J132 (mX12_join_L28 F) (nI f) m1 m1 (nI 0) (nI h) (nI a) (nI b) r i w else ob (mX12_findMade (nI h) (nI a) (nI b) i w) (fun r i w => mX12_join_J132 (mX12_join_L28 F) (nI f) m1 m1 (nI 0) (nI h) (nI a) (nI b) r i w)) := by
  refine ⟨va_up (va_up (va_up (va_up iw 22 0) 17 0) 17 (nI 1)) 17 (nI 0), au (au (au (au (au aw 12 0 (nI h)) 13 0 (nI a)) 14 0 (nI b)) 15 0 m1) 16 0 (nI 0), ⟨fun k k1 k2 k3 => ?_, fun j hj => ?_⟩, ⟨⟨?_, ?_, ?_⟩, fun k hk => ?_, fun m h1 h2 => ?_, trivial⟩, ?_⟩
  · rw [va_up_ne _ _ k2, va_up_ne _ _ k2, va_up_ne _ _ k2, va_up_ne _ _ k3]
  · unfold au
    rw [va_up_ne _ _ (by omega), va_up_ne _ _ (by omega), va_up_ne _ _ (by omega), va_up_ne _ _ (by omega), va_up_ne _ _ (by omega)]
  · simp only [upr]
    exact hr.1
  · simp only [upr]
    rw [Nat.sub_self]
    rfl
  · rfl
  · simp [aur]
    exact hr.2 k hk
  · omega
  · have e17 : va_up (va_up iw 22 0) 17 0 17 = nI 0 := rfl
    have hin : ¬ (nI 0 < 0 ∨ 4000 ≤ (nI 0).toNatClampNeg) := nI_in (by omega) (by omega)
    have hask : mX12_ask (nI h) (nI a) (nI b) (-1) 0 (va_up (va_up iw 22 0) 17 0) aw = some (0, va_up (va_up (va_up iw 22 0) 17 0) 17 (nI 1), au (au (au (au (au aw 12 0 (nI h)) 13 0 (nI a)) 14 0 (nI b)) 15 0 m1) 16 0 (nI 0)) := by
      unfold mX12_ask
      rw [e17]
      simp only [hin, if_false]
      rw [ncl (by omega), show (1 : Int32) = nI 1 from rfl, nadd]
      rfl
    rw [hask, obe, hr.1, mX12_join_L28, va_up_self, if_neg (show ¬ nI 1 ≤ 0 by decide), show (1 : Int32) = nI 1 from rfl, nsub (Nat.le_refl 1), Nat.sub_self, va_up_self, if_neg hin, if_neg hin, if_neg hin, if_neg hin, if_neg hin, ncl (by omega)]
    have w1 : au (au (au (au (au aw 12 0 (nI h)) 13 0 (nI a)) 14 0 (nI b)) 15 0 m1) 16 0 (nI 0) 12 0 = nI h := by simp [aur]
    have w2 : au (au (au (au (au aw 12 0 (nI h)) 13 0 (nI a)) 14 0 (nI b)) 15 0 m1) 16 0 (nI 0) 13 0 = nI a := by simp [aur]
    have w3 : au (au (au (au (au aw 12 0 (nI h)) 13 0 (nI a)) 14 0 (nI b)) 15 0 m1) 16 0 (nI 0) 14 0 = nI b := by simp [aur]
    have w4 : au (au (au (au (au aw 12 0 (nI h)) 13 0 (nI a)) 14 0 (nI b)) 15 0 m1) 16 0 (nI 0) 15 0 = m1 := by simp [aur]
    have w5 : au (au (au (au (au aw 12 0 (nI h)) 13 0 (nI a)) 14 0 (nI b)) 15 0 m1) 16 0 (nI 0) 16 0 = nI 0 := by simp [aur]
    rw [w1, w2, w3, w4, w5]
    rfl
